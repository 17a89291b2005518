/-! tables of the claim as data: classes (by number), fields, methods (by number), links of the constant pools. Written by wip/whole/gen1.py. -/
def a_own : List String := ["TypeForecast", "TypeForecast$Expressions", "TypeForecast$Program", "TypeForecast$Forecast", "TypeForecast$State", "TypeForecast$Picture", "TypeForecast$Range", "TypeForecast$Painter", "TypeForecast$Machine", "TypeForecastModel", "TypeForecastLaw", "java/lang/Math", "java/util/Arrays"]
def aC (o : Nat) : String := a_own.getD o ""
abbrev a_F : Type := String × String × String × Bool
def a_TL0 : List a_F := [("TypeForecast", "expressions", "LTypeForecast$Expressions;", true), ("TypeForecast", "program", "LTypeForecast$Program;", true), ("TypeForecast", "forecast", "LTypeForecast$Forecast;", true), ("TypeForecast", "machine", "LTypeForecast$Machine;", true)]
def a_TL1 : List a_F := [("TypeForecast$Expressions", "operation", "[I", true), ("TypeForecast$Expressions", "leafKind", "[I", true), ("TypeForecast$Expressions", "leafNumber", "[I", true), ("TypeForecast$Expressions", "left", "[I", true), ("TypeForecast$Expressions", "right", "[I", true), ("TypeForecast$Expressions", "weight", "[I", true), ("TypeForecast$Expressions", "count", "I", false)]
def a_TL2 : List a_F := [("TypeForecast$Program", "kind", "[I", true), ("TypeForecast$Program", "detail", "[I", true), ("TypeForecast$Program", "expression", "[I", true), ("TypeForecast$Program", "parent", "[I", true), ("TypeForecast$Program", "part", "[I", true), ("TypeForecast$Program", "next", "[I", true), ("TypeForecast$Program", "first", "[I", true), ("TypeForecast$Program", "count", "I", false), ("TypeForecast$Program", "openStatement", "[I", true), ("TypeForecast$Program", "openPart", "[I", true), ("TypeForecast$Program", "latest", "[I", true), ("TypeForecast$Program", "openCount", "I", false)]
def a_TL3 : List a_F := [("TypeForecast$Forecast", "program", "LTypeForecast$Program;", true), ("TypeForecast$Forecast", "painter", "LTypeForecast$Painter;", true), ("TypeForecast$Forecast", "before", "[LTypeForecast$State;", true), ("TypeForecast$Forecast", "passing", "LTypeForecast$State;", true), ("TypeForecast$Forecast", "waiting", "[Z", true), ("TypeForecast$Forecast", "alarms", "[Z", true), ("TypeForecast$Forecast", "alarmCount", "I", false), ("TypeForecast$Forecast", "statementsLooked", "I", false)]
def a_TL4 : List a_F := [("TypeForecast$State", "variables", "[LTypeForecast$Picture;", true)]
def a_TL5 : List a_F := [("TypeForecast$Picture", "numbers", "LTypeForecast$Range;", true), ("TypeForecast$Picture", "lengths", "LTypeForecast$Range;", true), ("TypeForecast$Picture", "none", "Z", false), ("TypeForecast$Picture", "unbound", "Z", false)]
def a_TL6 : List a_F := [("TypeForecast$Range", "low", "I", false), ("TypeForecast$Range", "high", "I", false)]
def a_TL7 : List a_F := [("TypeForecast$Painter", "expressions", "LTypeForecast$Expressions;", true), ("TypeForecast$Painter", "pictures", "[LTypeForecast$Picture;", true)]
def a_TL8 : List a_F := [("TypeForecast$Machine", "program", "LTypeForecast$Program;", true), ("TypeForecast$Machine", "expressions", "LTypeForecast$Expressions;", true), ("TypeForecast$Machine", "inputs", "[I", true), ("TypeForecast$Machine", "inputCount", "I", false), ("TypeForecast$Machine", "inputsUsed", "I", false), ("TypeForecast$Machine", "variables", "[J", true), ("TypeForecast$Machine", "answer", "I", false), ("TypeForecast$Machine", "place", "I", false)]
def a_TL9 : List a_F := [("TypeForecastModel", "expressions", "I", false), ("TypeForecastModel", "kind", "[I", true), ("TypeForecastModel", "left", "[I", true), ("TypeForecastModel", "right", "[I", true), ("TypeForecastModel", "weight", "[I", true), ("TypeForecastModel", "statements", "I", false), ("TypeForecastModel", "what", "[I", true), ("TypeForecastModel", "about", "[I", true), ("TypeForecastModel", "expr", "[I", true), ("TypeForecastModel", "parent", "[I", true), ("TypeForecastModel", "block", "[I", true), ("TypeForecastModel", "next", "[I", true), ("TypeForecastModel", "first", "[I", true), ("TypeForecastModel", "last", "[I", true), ("TypeForecastModel", "opened", "I", false), ("TypeForecastModel", "open", "[I", true), ("TypeForecastModel", "fed", "I", false), ("TypeForecastModel", "input", "[I", true), ("TypeForecastModel", "reached", "[Z", true), ("TypeForecastModel", "types", "[I", true), ("TypeForecastModel", "bounds", "[I", true), ("TypeForecastModel", "alarms", "[Z", true), ("TypeForecastModel", "changed", "Z", false), ("TypeForecastModel", "hereTypes", "[I", true), ("TypeForecastModel", "hereBounds", "[I", true), ("TypeForecastModel", "pictureTypes", "[I", true), ("TypeForecastModel", "pictureBounds", "[I", true), ("TypeForecastModel", "errors", "[I", true), ("TypeForecastModel", "wanted", "[Z", true), ("TypeForecastModel", "leftCount", "I", false), ("TypeForecastModel", "leftType", "[I", true), ("TypeForecastModel", "leftNumber", "[I", true), ("TypeForecastModel", "rightCount", "I", false), ("TypeForecastModel", "rightType", "[I", true), ("TypeForecastModel", "rightNumber", "[I", true), ("TypeForecastModel", "fitTypes", "I", false), ("TypeForecastModel", "fit", "[I", true), ("TypeForecastModel", "outType", "I", false), ("TypeForecastModel", "outNumber", "J", false), ("TypeForecastModel", "place", "I", false), ("TypeForecastModel", "heldType", "[I", true), ("TypeForecastModel", "held", "[J", true), ("TypeForecastModel", "taken", "I", false), ("TypeForecastModel", "tokens", "I", false), ("TypeForecastModel", "token", "[I", true), ("TypeForecastModel", "waiting", "[I", true), ("TypeForecastModel", "stackType", "[I", true), ("TypeForecastModel", "stack", "[J", true)]
def a_TL : List (List a_F) := [a_TL0, a_TL1, a_TL2, a_TL3, a_TL4, a_TL5, a_TL6, a_TL7, a_TL8, a_TL9]
def a_nf (ci : Nat) : Nat := (a_TL.getD ci []).length
def a_Tf (ci : Nat) : u_T := fun k => (a_TL.getD ci []).getD k ("", "", "", false)
def a_kdT : List (List Nat) := [[3, 3, 3, 3], [3, 3, 3, 3, 3, 3, 0], [3, 3, 3, 3, 3, 3, 3, 0, 3, 3, 3, 0], [3, 3, 3, 3, 3, 3, 0, 0], [3], [3, 3, 1, 1], [0, 0], [3, 3], [3, 3, 3, 0, 0, 3, 0, 0], [0, 3, 3, 3, 3, 0, 3, 3, 3, 3, 3, 3, 3, 3, 0, 3, 0, 3, 3, 3, 3, 3, 1, 3, 3, 3, 3, 3, 3, 0, 3, 3, 0, 3, 3, 0, 3, 0, 2, 0, 3, 3, 0, 0, 3, 3, 3, 3]]
def a_kd (ci k : Nat) : Nat := (a_kdT.getD ci []).getD k 9
def a_tyk (ci k : Nat) : FieldType := (parseFieldDescriptor (a_Tf ci k).2.2.1).getD .int
abbrev a_cl : List vw_C := (List.range 10).map (fun ci => (aC ci, a_Tf ci, a_nf ci))
abbrev a_MR : Type := MethodName × Unit × Nat × Option FieldType × Nat × Nat × Nat × List Nat
def a_mr0 : a_MR := (⟨"", "", ""⟩, (), 0, none, 99, 9, 0, [0, 0, 0, 0])
def a_MT0 : List a_MR := [(⟨"TypeForecast", "<init>", "()V"⟩, (), 1, (none : Option FieldType), 0, 2, 0, [68, 67, 0, 52]),
  (⟨"TypeForecast", "leaf", "(II)I"⟩, (), 3, (some FieldType.int), 0, 0, 2, [325, 323, 324, 52]),
  (⟨"TypeForecast", "apply", "(III)I"⟩, (), 4, (some FieldType.int), 0, 0, 3, [341, 339, 340, 52]),
  (⟨"TypeForecast", "assign", "(II)I"⟩, (), 3, (some FieldType.int), 0, 0, 2, [356, 354, 355, 52]),
  (⟨"TypeForecast", "raise", "(I)I"⟩, (), 2, (some FieldType.int), 0, 0, 1, [370, 368, 369, 52]),
  (⟨"TypeForecast", "leave", "(Z)I"⟩, (), 3, (some FieldType.int), 0, 0, 1, [377, 375, 376, 52]),
  (⟨"TypeForecast", "branch", "(I)I"⟩, (), 2, (some FieldType.int), 0, 0, 1, [385, 383, 384, 52]),
  (⟨"TypeForecast", "loop", "(I)I"⟩, (), 2, (some FieldType.int), 0, 0, 1, [394, 392, 393, 52]),
  (⟨"TypeForecast", "attempt", "(I)I"⟩, (), 2, (some FieldType.int), 0, 0, 1, [398, 396, 397, 52]),
  (⟨"TypeForecast", "otherwise", "()Z"⟩, (), 1, (some FieldType.boolean), 0, 0, 0, [402, 400, 401, 52]),
  (⟨"TypeForecast", "end", "()Z"⟩, (), 1, (some FieldType.boolean), 0, 0, 0, [410, 408, 409, 52]),
  (⟨"TypeForecast", "feed", "(I)Z"⟩, (), 2, (some FieldType.boolean), 0, 0, 1, [418, 416, 417, 52]),
  (⟨"TypeForecast", "look", "()I"⟩, (), 1, (some FieldType.int), 0, 0, 0, [428, 426, 427, 52]),
  (⟨"TypeForecast", "alarm", "(II)Z"⟩, (), 3, (some FieldType.boolean), 0, 0, 2, [701, 699, 700, 52]),
  (⟨"TypeForecast", "seen", "(II)I"⟩, (), 3, (some FieldType.int), 0, 0, 2, [713, 711, 712, 52]),
  (⟨"TypeForecast", "bound", "(III)I"⟩, (), 7, (some FieldType.int), 0, 0, 3, [729, 727, 728, 52])]
def a_MT1 : List a_MR := [(⟨"TypeForecast", "run", "(I)I"⟩, (), 2, (some FieldType.int), 0, 0, 1, [742, 740, 741, 52]),
  (⟨"TypeForecast", "place", "()I"⟩, (), 1, (some FieldType.int), 0, 0, 0, [813, 811, 812, 52]),
  (⟨"TypeForecast", "type", "(I)I"⟩, (), 2, (some FieldType.int), 0, 0, 1, [821, 819, 820, 52]),
  (⟨"TypeForecast", "number", "(I)I"⟩, (), 2, (some FieldType.int), 0, 0, 1, [829, 827, 828, 52]),
  (⟨"TypeForecast", "pictureBefore", "(II)LTypeForecast$Picture;"⟩, (), 3, (some (FieldType.object "TypeForecast$Picture")), 0, 0, 2, [717, 716, 12, 52]),
  (⟨"TypeForecast", "isVariable", "(I)Z"⟩, (), 1, (some FieldType.boolean), 0, 1, 1, [337, 336, 0, 52]),
  (⟨"TypeForecast", "isErrorKind", "(I)Z"⟩, (), 1, (some FieldType.boolean), 0, 1, 1, [373, 372, 0, 52]),
  (⟨"TypeForecast$Expressions", "<init>", "()V"⟩, (), 1, (none : Option FieldType), 1, 2, 0, [76, 75, 0, 53]),
  (⟨"TypeForecast$Expressions", "has", "(I)Z"⟩, (), 2, (some FieldType.boolean), 1, 0, 1, [349, 347, 348, 53]),
  (⟨"TypeForecast$Expressions", "addLeaf", "(II)I"⟩, (), 3, (some FieldType.int), 1, 0, 2, [329, 327, 328, 53]),
  (⟨"TypeForecast$Expressions", "isLeaf", "(II)Z"⟩, (), 2, (some FieldType.boolean), 1, 1, 2, [332, 331, 0, 53]),
  (⟨"TypeForecast$Expressions", "addOperation", "(III)I"⟩, (), 6, (some FieldType.int), 1, 0, 3, [345, 343, 344, 53]),
  (⟨"TypeForecast$Expressions", "hasOnePart", "(I)Z"⟩, (), 1, (some FieldType.boolean), 1, 1, 1, [352, 351, 0, 53]),
  (⟨"TypeForecast$Expressions", "narrowedVariable", "(I)I"⟩, (), 5, (some FieldType.int), 1, 0, 1, [667, 665, 666, 53]),
  (⟨"TypeForecast$Program", "<init>", "()V"⟩, (), 1, (none : Option FieldType), 2, 2, 0, [115, 114, 0, 54]),
  (⟨"TypeForecast$Program", "has", "(I)Z"⟩, (), 2, (some FieldType.boolean), 2, 0, 1, [705, 703, 704, 54])]
def a_MT2 : List a_MR := [(⟨"TypeForecast$Program", "isOpen", "()Z"⟩, (), 1, (some FieldType.boolean), 2, 0, 0, [432, 430, 431, 54]),
  (⟨"TypeForecast$Program", "worksOut", "(I)Z"⟩, (), 2, (some FieldType.boolean), 2, 0, 1, [478, 476, 477, 54]),
  (⟨"TypeForecast$Program", "add", "(III)I"⟩, (), 5, (some FieldType.int), 2, 0, 3, [362, 360, 361, 54]),
  (⟨"TypeForecast$Program", "link", "(I)V"⟩, (), 5, (none : Option FieldType), 2, 0, 1, [366, 365, 0, 54]),
  (⟨"TypeForecast$Program", "addOpen", "(III)I"⟩, (), 5, (some FieldType.int), 2, 0, 3, [389, 387, 388, 54]),
  (⟨"TypeForecast$Program", "openSecondBlock", "()Z"⟩, (), 1, (some FieldType.boolean), 2, 0, 0, [406, 404, 405, 54]),
  (⟨"TypeForecast$Program", "close", "()Z"⟩, (), 1, (some FieldType.boolean), 2, 0, 0, [414, 412, 413, 54]),
  (⟨"TypeForecast$Program", "innermostOpenLoop", "()I"⟩, (), 2, (some FieldType.int), 2, 0, 0, [381, 379, 380, 54]),
  (⟨"TypeForecast$Program", "start", "()I"⟩, (), 1, (some FieldType.int), 2, 0, 0, [457, 455, 456, 54]),
  (⟨"TypeForecast$Program", "entry", "(II)I"⟩, (), 4, (some FieldType.int), 2, 0, 2, [638, 636, 637, 54]),
  (⟨"TypeForecast$Program", "behind", "(I)I"⟩, (), 4, (some FieldType.int), 2, 0, 1, [642, 640, 641, 54]),
  (⟨"TypeForecast$Program", "catcher", "(II)I"⟩, (), 7, (some FieldType.int), 2, 0, 2, [634, 632, 633, 54]),
  (⟨"TypeForecast$Forecast", "<init>", "(LTypeForecast$Program;LTypeForecast$Expressions;)V"⟩, (), 4, (none : Option FieldType), 3, 2, 2, [165, 164, 0, 55]),
  (⟨"TypeForecast$Forecast", "stateAt", "(I)LTypeForecast$State;"⟩, (), 2, (some (FieldType.object "TypeForecast$State")), 3, 0, 1, [721, 719, 720, 55]),
  (⟨"TypeForecast$Forecast", "hasAlarm", "(II)Z"⟩, (), 3, (some FieldType.boolean), 3, 0, 2, [709, 707, 708, 55]),
  (⟨"TypeForecast$Forecast", "lookThrough", "()I"⟩, (), 4, (some FieldType.int), 3, 0, 0, [436, 434, 435, 55])]
def a_MT3 : List a_MR := [(⟨"TypeForecast$Forecast", "forget", "()V"⟩, (), 2, (none : Option FieldType), 3, 0, 0, [440, 439, 1, 55]),
  (⟨"TypeForecast$Forecast", "countAlarms", "()I"⟩, (), 3, (some FieldType.int), 3, 0, 0, [697, 696, 11, 55]),
  (⟨"TypeForecast$Forecast", "flow", "(LTypeForecast$State;I)V"⟩, (), 3, (none : Option FieldType), 3, 0, 2, [461, 460, 2, 55]),
  (⟨"TypeForecast$Forecast", "visitPlain", "(I)V"⟩, (), 2, (none : Option FieldType), 3, 0, 1, [693, 692, 10, 55]),
  (⟨"TypeForecast$Forecast", "visitWithExpression", "(I)V"⟩, (), 4, (none : Option FieldType), 3, 0, 1, [482, 481, 3, 55]),
  (⟨"TypeForecast$Forecast", "flowAssigned", "(ILTypeForecast$Picture;)V"⟩, (), 3, (none : Option FieldType), 3, 0, 2, [646, 645, 8, 55]),
  (⟨"TypeForecast$Forecast", "flowNarrowed", "(IZ)V"⟩, (), 3, (none : Option FieldType), 3, 0, 2, [659, 658, 9, 55]),
  (⟨"TypeForecast$Forecast", "flowErrors", "(II)V"⟩, (), 5, (none : Option FieldType), 3, 0, 2, [630, 629, 7, 55]),
  (⟨"TypeForecast$State", "<init>", "()V"⟩, (), 2, (none : Option FieldType), 4, 2, 0, [172, 171, 0, 56]),
  (⟨"TypeForecast$State", "clear", "()V"⟩, (), 2, (none : Option FieldType), 4, 0, 0, [444, 442, 443, 56]),
  (⟨"TypeForecast$State", "unbindAll", "()V"⟩, (), 2, (none : Option FieldType), 4, 0, 0, [453, 451, 452, 56]),
  (⟨"TypeForecast$State", "copyFrom", "(LTypeForecast$State;)V"⟩, (), 3, (none : Option FieldType), 4, 0, 1, [651, 649, 650, 56]),
  (⟨"TypeForecast$State", "join", "(LTypeForecast$State;)Z"⟩, (), 4, (some FieldType.boolean), 4, 0, 1, [465, 463, 464, 56]),
  (⟨"TypeForecast$Picture", "<init>", "()V"⟩, (), 1, (none : Option FieldType), 5, 2, 0, [179, 178, 0, 57]),
  (⟨"TypeForecast$Picture", "clear", "()V"⟩, (), 1, (none : Option FieldType), 5, 0, 0, [448, 446, 447, 57]),
  (⟨"TypeForecast$Picture", "copyFrom", "(LTypeForecast$Picture;)V"⟩, (), 2, (none : Option FieldType), 5, 0, 1, [499, 497, 498, 57])]
def a_MT4 : List a_MR := [(⟨"TypeForecast$Picture", "join", "(LTypeForecast$Picture;)Z"⟩, (), 3, (some FieldType.boolean), 5, 0, 1, [469, 467, 468, 57]),
  (⟨"TypeForecast$Picture", "types", "()I"⟩, (), 1, (some FieldType.int), 5, 0, 0, [725, 723, 724, 57]),
  (⟨"TypeForecast$Picture", "hasValue", "()Z"⟩, (), 1, (some FieldType.boolean), 5, 0, 0, [513, 511, 512, 57]),
  (⟨"TypeForecast$Picture", "hasOtherThanNumber", "()Z"⟩, (), 1, (some FieldType.boolean), 5, 0, 0, [562, 560, 561, 57]),
  (⟨"TypeForecast$Picture", "hasOtherThanText", "()Z"⟩, (), 1, (some FieldType.boolean), 5, 0, 0, [547, 545, 546, 57]),
  (⟨"TypeForecast$Picture", "hasTrue", "()Z"⟩, (), 1, (some FieldType.boolean), 5, 0, 0, [533, 531, 532, 57]),
  (⟨"TypeForecast$Picture", "hasFalse", "()Z"⟩, (), 1, (some FieldType.boolean), 5, 0, 0, [525, 523, 524, 57]),
  (⟨"TypeForecast$Picture", "hasOneValue", "()Z"⟩, (), 1, (some FieldType.boolean), 5, 0, 0, [621, 619, 620, 57]),
  (⟨"TypeForecast$Picture", "mayEqual", "(LTypeForecast$Picture;)Z"⟩, (), 2, (some FieldType.boolean), 5, 0, 1, [609, 607, 608, 57]),
  (⟨"TypeForecast$Picture", "mayDiffer", "(LTypeForecast$Picture;)Z"⟩, (), 2, (some FieldType.boolean), 5, 0, 1, [617, 615, 616, 57]),
  (⟨"TypeForecast$Picture", "includeTruth", "(ZZ)V"⟩, (), 3, (none : Option FieldType), 5, 0, 2, [541, 539, 540, 57]),
  (⟨"TypeForecast$Picture", "keepTruth", "(Z)V"⟩, (), 2, (none : Option FieldType), 5, 0, 1, [687, 685, 686, 57]),
  (⟨"TypeForecast$Picture", "keepLess", "(LTypeForecast$Picture;Z)V"⟩, (), 3, (none : Option FieldType), 5, 0, 2, [671, 669, 670, 57]),
  (⟨"TypeForecast$Picture", "keepEqual", "(LTypeForecast$Picture;Z)V"⟩, (), 3, (none : Option FieldType), 5, 0, 2, [679, 677, 678, 57]),
  (⟨"TypeForecast$Range", "<init>", "()V"⟩, (), 1, (none : Option FieldType), 6, 2, 0, [185, 184, 0, 58]),
  (⟨"TypeForecast$Range", "clear", "()V"⟩, (), 1, (none : Option FieldType), 6, 0, 0, [190, 188, 189, 58])]
def a_MT5 : List a_MR := [(⟨"TypeForecast$Range", "copyFrom", "(LTypeForecast$Range;)V"⟩, (), 2, (none : Option FieldType), 6, 0, 1, [503, 501, 502, 58]),
  (⟨"TypeForecast$Range", "include", "(II)V"⟩, (), 5, (none : Option FieldType), 6, 0, 2, [495, 493, 494, 58]),
  (⟨"TypeForecast$Range", "join", "(LTypeForecast$Range;)Z"⟩, (), 3, (some FieldType.boolean), 6, 0, 1, [473, 471, 472, 58]),
  (⟨"TypeForecast$Range", "includeAll", "()V"⟩, (), 1, (none : Option FieldType), 6, 0, 0, [507, 505, 506, 58]),
  (⟨"TypeForecast$Range", "isEmpty", "()Z"⟩, (), 1, (some FieldType.boolean), 6, 0, 0, [517, 515, 516, 58]),
  (⟨"TypeForecast$Range", "isSingle", "()Z"⟩, (), 1, (some FieldType.boolean), 6, 0, 0, [625, 623, 624, 58]),
  (⟨"TypeForecast$Range", "holds", "(I)Z"⟩, (), 2, (some FieldType.boolean), 6, 0, 1, [529, 527, 528, 58]),
  (⟨"TypeForecast$Range", "holdsOtherThan", "(I)Z"⟩, (), 2, (some FieldType.boolean), 6, 0, 1, [537, 535, 536, 58]),
  (⟨"TypeForecast$Range", "meets", "(LTypeForecast$Range;)Z"⟩, (), 2, (some FieldType.boolean), 6, 0, 1, [613, 611, 612, 58]),
  (⟨"TypeForecast$Range", "mayBeLess", "(LTypeForecast$Range;)Z"⟩, (), 2, (some FieldType.boolean), 6, 0, 1, [601, 599, 600, 58]),
  (⟨"TypeForecast$Range", "mayBeNotLess", "(LTypeForecast$Range;)Z"⟩, (), 2, (some FieldType.boolean), 6, 0, 1, [605, 603, 604, 58]),
  (⟨"TypeForecast$Range", "keep", "(II)V"⟩, (), 5, (none : Option FieldType), 6, 0, 2, [675, 673, 674, 58]),
  (⟨"TypeForecast$Range", "drop", "(I)V"⟩, (), 4, (none : Option FieldType), 6, 0, 1, [683, 681, 682, 58]),
  (⟨"TypeForecast$Range", "includeSums", "(LTypeForecast$Range;LTypeForecast$Range;)V"⟩, (), 3, (none : Option FieldType), 6, 0, 2, [554, 552, 553, 58]),
  (⟨"TypeForecast$Range", "includeDifferences", "(LTypeForecast$Range;LTypeForecast$Range;)V"⟩, (), 3, (none : Option FieldType), 6, 0, 2, [566, 564, 565, 58]),
  (⟨"TypeForecast$Range", "includeProducts", "(LTypeForecast$Range;LTypeForecast$Range;)V"⟩, (), 3, (none : Option FieldType), 6, 0, 2, [573, 571, 572, 58])]
def a_MT6 : List a_MR := [(⟨"TypeForecast$Range", "includeQuotients", "(LTypeForecast$Range;II)V"⟩, (), 4, (none : Option FieldType), 6, 0, 3, [588, 586, 587, 58]),
  (⟨"TypeForecast$Range", "includeCorners", "(IIII)V"⟩, (), 5, (none : Option FieldType), 6, 0, 4, [577, 576, 6, 58]),
  (⟨"TypeForecast$Range", "shownLow", "()I"⟩, (), 1, (some FieldType.int), 6, 0, 0, [734, 732, 733, 58]),
  (⟨"TypeForecast$Range", "shownHigh", "()I"⟩, (), 1, (some FieldType.int), 6, 0, 0, [738, 736, 737, 58]),
  (⟨"TypeForecast$Painter", "<init>", "(LTypeForecast$Expressions;)V"⟩, (), 3, (none : Option FieldType), 7, 2, 1, [233, 232, 0, 59]),
  (⟨"TypeForecast$Painter", "paint", "(ILTypeForecast$State;I)I"⟩, (), 9, (some FieldType.int), 7, 0, 3, [486, 485, 4, 59]),
  (⟨"TypeForecast$Painter", "paintLeaf", "(ILTypeForecast$State;LTypeForecast$Picture;)I"⟩, (), 5, (some FieldType.int), 7, 0, 3, [491, 490, 5, 59]),
  (⟨"TypeForecast$Painter", "paintSingle", "(ILTypeForecast$Picture;LTypeForecast$Picture;)I"⟩, (), 3, (some FieldType.int), 7, 1, 3, [521, 520, 0, 59]),
  (⟨"TypeForecast$Painter", "paintPair", "(ILTypeForecast$Picture;LTypeForecast$Picture;LTypeForecast$Picture;)I"⟩, (), 4, (some FieldType.int), 7, 1, 4, [550, 549, 0, 59]),
  (⟨"TypeForecast$Painter", "mixError", "(LTypeForecast$Picture;LTypeForecast$Picture;)I"⟩, (), 4, (some FieldType.int), 7, 1, 2, [558, 557, 0, 59]),
  (⟨"TypeForecast$Painter", "nonNumberError", "(LTypeForecast$Picture;LTypeForecast$Picture;)I"⟩, (), 2, (some FieldType.int), 7, 1, 2, [569, 568, 0, 59]),
  (⟨"TypeForecast$Painter", "zeroError", "(LTypeForecast$Picture;LTypeForecast$Picture;)I"⟩, (), 2, (some FieldType.int), 7, 1, 2, [595, 594, 0, 59]),
  (⟨"TypeForecast$Painter", "narrow", "(LTypeForecast$State;IZ)V"⟩, (), 6, (none : Option FieldType), 7, 0, 3, [663, 661, 662, 59]),
  (⟨"TypeForecast$Machine", "<init>", "(LTypeForecast$Program;LTypeForecast$Expressions;)V"⟩, (), 3, (none : Option FieldType), 8, 2, 2, [275, 274, 0, 60]),
  (⟨"TypeForecast$Machine", "addInput", "(I)Z"⟩, (), 2, (some FieldType.boolean), 8, 0, 1, [422, 420, 421, 60]),
  (⟨"TypeForecast$Machine", "lastPlace", "()I"⟩, (), 1, (some FieldType.int), 8, 0, 0, [817, 815, 816, 60])]
def a_MT7 : List a_MR := [(⟨"TypeForecast$Machine", "typeOf", "(I)I"⟩, (), 2, (some FieldType.int), 8, 0, 1, [825, 823, 824, 60]),
  (⟨"TypeForecast$Machine", "amountOf", "(I)I"⟩, (), 2, (some FieldType.int), 8, 0, 1, [833, 831, 832, 60]),
  (⟨"TypeForecast$Machine", "execute", "(I)I"⟩, (), 4, (some FieldType.int), 8, 0, 1, [746, 744, 745, 60]),
  (⟨"TypeForecast$Machine", "stop", "(II)I"⟩, (), 3, (some FieldType.int), 8, 0, 2, [806, 805, 19, 60]),
  (⟨"TypeForecast$Machine", "step", "(I)I"⟩, (), 2, (some FieldType.int), 8, 0, 1, [751, 750, 13, 60]),
  (⟨"TypeForecast$Machine", "stepWith", "(IJ)I"⟩, (), 4, (some FieldType.int), 8, 0, 2, [798, 797, 17, 60]),
  (⟨"TypeForecast$Machine", "fail", "(II)I"⟩, (), 4, (some FieldType.int), 8, 0, 2, [802, 801, 18, 60]),
  (⟨"TypeForecast$Machine", "workOut", "(II)J"⟩, (), 8, (some FieldType.long), 8, 0, 2, [756, 755, 14, 60]),
  (⟨"TypeForecast$Machine", "leafValue", "(I)J"⟩, (), 4, (some FieldType.long), 8, 0, 1, [761, 760, 15, 60]),
  (⟨"TypeForecast$Machine", "nextInput", "()I"⟩, (), 1, (some FieldType.int), 8, 0, 0, [769, 768, 16, 60]),
  (⟨"TypeForecast$Machine", "single", "(IJ)J"⟩, (), 3, (some FieldType.long), 8, 1, 2, [773, 772, 0, 60]),
  (⟨"TypeForecast$Machine", "pair", "(IJJ)J"⟩, (), 12, (some FieldType.long), 8, 1, 3, [785, 784, 0, 60]),
  (⟨"TypeForecast$Machine", "checked", "(IJ)J"⟩, (), 4, (some FieldType.long), 8, 1, 2, [788, 787, 0, 60]),
  (⟨"TypeForecast$Machine", "truth", "(Z)J"⟩, (), 1, (some FieldType.long), 8, 1, 1, [782, 781, 0, 60]),
  (⟨"TypeForecast$Machine", "isTrue", "(J)Z"⟩, (), 2, (some FieldType.boolean), 8, 1, 1, [776, 775, 0, 60]),
  (⟨"TypeForecast$Machine", "value", "(IJ)J"⟩, (), 3, (some FieldType.long), 8, 1, 2, [279, 278, 0, 60])]
def a_MT8 : List a_MR := [(⟨"TypeForecast$Machine", "typeIn", "(J)I"⟩, (), 2, (some FieldType.int), 8, 1, 1, [764, 763, 0, 60]),
  (⟨"TypeForecast$Machine", "amountIn", "(J)J"⟩, (), 2, (some FieldType.long), 8, 1, 1, [779, 778, 0, 60]),
  (⟨"TypeForecastModel", "<init>", "()V"⟩, (), 2, (none : Option FieldType), 9, 2, 0, [838, 837, 0, 62]),
  (⟨"TypeForecastModel", "forget", "()V"⟩, (), 2, (none : Option FieldType), 9, 0, 0, [1046, 1045, 22, 62]),
  (⟨"TypeForecastModel", "leaf", "(II)I"⟩, (), 6, (some FieldType.int), 9, 0, 2, [988, 986, 987, 62]),
  (⟨"TypeForecastModel", "isExpression", "(I)Z"⟩, (), 2, (some FieldType.boolean), 9, 0, 1, [998, 997, 20, 62]),
  (⟨"TypeForecastModel", "apply", "(III)I"⟩, (), 6, (some FieldType.int), 9, 0, 3, [994, 992, 993, 62]),
  (⟨"TypeForecastModel", "add", "(III)I"⟩, (), 6, (some FieldType.int), 9, 0, 3, [1006, 1005, 21, 62]),
  (⟨"TypeForecastModel", "assign", "(II)I"⟩, (), 3, (some FieldType.int), 9, 0, 2, [1002, 1000, 1001, 62]),
  (⟨"TypeForecastModel", "raise", "(I)I"⟩, (), 2, (some FieldType.int), 9, 0, 1, [1010, 1008, 1009, 62]),
  (⟨"TypeForecastModel", "leave", "(Z)I"⟩, (), 4, (some FieldType.int), 9, 0, 1, [1014, 1012, 1013, 62]),
  (⟨"TypeForecastModel", "branch", "(I)I"⟩, (), 2, (some FieldType.int), 9, 0, 1, [1018, 1016, 1017, 62]),
  (⟨"TypeForecastModel", "loop", "(I)I"⟩, (), 2, (some FieldType.int), 9, 0, 1, [1022, 1020, 1021, 62]),
  (⟨"TypeForecastModel", "attempt", "(I)I"⟩, (), 2, (some FieldType.int), 9, 0, 1, [1026, 1024, 1025, 62]),
  (⟨"TypeForecastModel", "otherwise", "()Z"⟩, (), 2, (some FieldType.boolean), 9, 0, 0, [1030, 1028, 1029, 62]),
  (⟨"TypeForecastModel", "end", "()Z"⟩, (), 2, (some FieldType.boolean), 9, 0, 0, [1034, 1032, 1033, 62])]
def a_MT9 : List a_MR := [(⟨"TypeForecastModel", "feed", "(I)Z"⟩, (), 2, (some FieldType.boolean), 9, 0, 1, [1038, 1036, 1037, 62]),
  (⟨"TypeForecastModel", "behind", "(I)I"⟩, (), 5, (some FieldType.int), 9, 0, 1, [1146, 1145, 42, 62]),
  (⟨"TypeForecastModel", "into", "(II)I"⟩, (), 4, (some FieldType.int), 9, 0, 2, [1142, 1141, 41, 62]),
  (⟨"TypeForecastModel", "loopAround", "(I)I"⟩, (), 3, (some FieldType.int), 9, 0, 1, [1150, 1149, 43, 62]),
  (⟨"TypeForecastModel", "catcher", "(II)I"⟩, (), 5, (some FieldType.int), 9, 0, 2, [1138, 1137, 40, 62]),
  (⟨"TypeForecastModel", "start", "()I"⟩, (), 1, (some FieldType.int), 9, 0, 0, [1050, 1049, 23, 62]),
  (⟨"TypeForecastModel", "isTrue", "(IJ)Z"⟩, (), 3, (some FieldType.boolean), 9, 1, 2, [1130, 1129, 0, 62]),
  (⟨"TypeForecastModel", "give", "(IJ)V"⟩, (), 4, (none : Option FieldType), 9, 0, 2, [1123, 1122, 38, 62]),
  (⟨"TypeForecastModel", "quotient", "(JJ)J"⟩, (), 6, (some FieldType.long), 9, 1, 2, [1127, 1126, 0, 62]),
  (⟨"TypeForecastModel", "work", "(IIJIJ)V"⟩, (), 10, (none : Option FieldType), 9, 0, 5, [1119, 1118, 37, 62]),
  (⟨"TypeForecastModel", "low", "(J)I"⟩, (), 2, (some FieldType.int), 9, 1, 1, [1085, 1084, 0, 62]),
  (⟨"TypeForecastModel", "high", "(J)I"⟩, (), 2, (some FieldType.int), 9, 1, 1, [1090, 1089, 0, 62]),
  (⟨"TypeForecastModel", "fitNone", "()V"⟩, (), 2, (none : Option FieldType), 9, 0, 0, [1078, 1077, 30, 62]),
  (⟨"TypeForecastModel", "fitValue", "(IJ)V"⟩, (), 6, (none : Option FieldType), 9, 0, 2, [1082, 1081, 31, 62]),
  (⟨"TypeForecastModel", "within", "(III)Z"⟩, (), 3, (some FieldType.boolean), 9, 1, 3, [1111, 1110, 0, 62]),
  (⟨"TypeForecastModel", "leftValue", "(II)V"⟩, (), 3, (none : Option FieldType), 9, 0, 2, [1115, 1114, 36, 62])]
def a_MT10 : List a_MR := [(⟨"TypeForecastModel", "leftValues", "(I)V"⟩, (), 11, (none : Option FieldType), 9, 0, 1, [1108, 1107, 35, 62]),
  (⟨"TypeForecastModel", "rightValues", "(I)V"⟩, (), 3, (none : Option FieldType), 9, 0, 1, [1104, 1103, 34, 62]),
  (⟨"TypeForecastModel", "keepFit", "(I)V"⟩, (), 3, (none : Option FieldType), 9, 0, 1, [1096, 1095, 32, 62]),
  (⟨"TypeForecastModel", "pictureLeaf", "(I)V"⟩, (), 4, (none : Option FieldType), 9, 0, 1, [1074, 1073, 29, 62]),
  (⟨"TypeForecastModel", "pictureOperation", "(I)V"⟩, (), 7, (none : Option FieldType), 9, 0, 1, [1100, 1099, 33, 62]),
  (⟨"TypeForecastModel", "picture", "(I)V"⟩, (), 3, (none : Option FieldType), 9, 0, 1, [1070, 1069, 28, 62]),
  (⟨"TypeForecastModel", "mayBe", "(IZ)Z"⟩, (), 5, (some FieldType.boolean), 9, 0, 2, [1154, 1153, 44, 62]),
  (⟨"TypeForecastModel", "narrow", "(IZ)V"⟩, (), 9, (none : Option FieldType), 9, 0, 2, [1158, 1157, 45, 62]),
  (⟨"TypeForecastModel", "setHere", "(I)V"⟩, (), 3, (none : Option FieldType), 9, 0, 1, [1162, 1161, 46, 62]),
  (⟨"TypeForecastModel", "load", "(I)V"⟩, (), 3, (none : Option FieldType), 9, 0, 1, [1066, 1065, 27, 62]),
  (⟨"TypeForecastModel", "joinBound", "(IIZZ)V"⟩, (), 7, (none : Option FieldType), 9, 0, 4, [1058, 1057, 25, 62]),
  (⟨"TypeForecastModel", "flow", "(I)V"⟩, (), 7, (none : Option FieldType), 9, 0, 1, [1054, 1053, 24, 62]),
  (⟨"TypeForecastModel", "mayRaise", "(II)V"⟩, (), 5, (none : Option FieldType), 9, 0, 2, [1134, 1133, 39, 62]),
  (⟨"TypeForecastModel", "through", "(I)V"⟩, (), 3, (none : Option FieldType), 9, 0, 1, [1062, 1061, 26, 62]),
  (⟨"TypeForecastModel", "look", "()I"⟩, (), 3, (some FieldType.int), 9, 0, 0, [1042, 1040, 1041, 62]),
  (⟨"TypeForecastModel", "alarm", "(II)Z"⟩, (), 3, (some FieldType.boolean), 9, 0, 2, [1166, 1164, 1165, 62])]
def a_MT11 : List a_MR := [(⟨"TypeForecastModel", "seen", "(II)I"⟩, (), 4, (some FieldType.int), 9, 0, 2, [1170, 1168, 1169, 62]),
  (⟨"TypeForecastModel", "bound", "(III)I"⟩, (), 5, (some FieldType.int), 9, 0, 3, [1174, 1172, 1173, 62]),
  (⟨"TypeForecastModel", "order", "(I)V"⟩, (), 5, (none : Option FieldType), 9, 0, 1, [1191, 1190, 49, 62]),
  (⟨"TypeForecastModel", "leafValue", "(I)V"⟩, (), 4, (none : Option FieldType), 9, 0, 1, [1195, 1194, 50, 62]),
  (⟨"TypeForecastModel", "value", "(I)V"⟩, (), 6, (none : Option FieldType), 9, 0, 1, [1187, 1186, 48, 62]),
  (⟨"TypeForecastModel", "done", "(I)I"⟩, (), 3, (some FieldType.int), 9, 0, 1, [1183, 1182, 47, 62]),
  (⟨"TypeForecastModel", "run", "(I)I"⟩, (), 5, (some FieldType.int), 9, 0, 1, [1179, 1177, 1178, 62]),
  (⟨"TypeForecastModel", "place", "()I"⟩, (), 1, (some FieldType.int), 9, 0, 0, [1202, 1200, 1201, 62]),
  (⟨"TypeForecastModel", "type", "(I)I"⟩, (), 2, (some FieldType.int), 9, 0, 1, [1206, 1204, 1205, 62]),
  (⟨"TypeForecastModel", "number", "(I)I"⟩, (), 2, (some FieldType.int), 9, 0, 1, [1210, 1208, 1209, 62]),
  (⟨"TypeForecastLaw", "law", "([I)Z"⟩, (), 4, (some FieldType.boolean), 10, 1, 1, [0, 0, 0, 51]),
  (⟨"java/lang/Math", "floorDiv", "(II)I"⟩, (), 3, (some FieldType.int), 11, 1, 2, [591, 590, 0, 63]),
  (⟨"java/lang/Math", "floorDiv", "(JJ)J"⟩, (), 6, (some FieldType.long), 11, 1, 2, [794, 793, 0, 63]),
  (⟨"java/lang/Math", "max", "(II)I"⟩, (), 2, (some FieldType.int), 11, 1, 2, [583, 582, 0, 63]),
  (⟨"java/lang/Math", "min", "(II)I"⟩, (), 2, (some FieldType.int), 11, 1, 2, [580, 579, 0, 63]),
  (⟨"java/util/Arrays", "fill", "([JJ)V"⟩, (), 5, (none : Option FieldType), 12, 1, 2, [282, 281, 0, 61])]
def a_MT : List a_MR := a_mr0 :: (a_MT0 ++ (a_MT1 ++ (a_MT2 ++ (a_MT3 ++ (a_MT4 ++ (a_MT5 ++ (a_MT6 ++ (a_MT7 ++ (a_MT8 ++ (a_MT9 ++ (a_MT10 ++ (a_MT11))))))))))))
def a_m (i : Nat) : a_MR := a_MT.getD i a_mr0
def m_y (i : Nat) : MethodName := (a_m i).1
def m_nl (i : Nat) : Nat := (a_m i).2.2.1
def m_rt (i : Nat) : Option FieldType := (a_m i).2.2.2.1
def m_o (i : Nat) : Nat := (a_m i).2.2.2.2.1
def m_k (i : Nat) : Nat := (a_m i).2.2.2.2.2.1
def m_np (i : Nat) : Nat := (a_m i).2.2.2.2.2.2.1
def m_h (i : Nat) : List Nat := (a_m i).2.2.2.2.2.2.2
/-- the code that the tables have of a method (the law: its own) -/
def m_cc (i : Nat) : ByteArray := if i = 187 then code else match lw_tbl[(m_h i).getD 0 0]? with
  | some (.code _ cc _ _) => cc
  | _ => ⟨#[]⟩
def a_at (i : Nat) (w : Jvm.Cond) : Bool := decide (lw_tbl[i]? = some w)
theorem a_at_in {i : Nat} {w : Jvm.Cond} (h : a_at i w = true) : w ∈ lw_tbl := List.mem_of_getElem? (of_decide_eq_true h)
def wG : List Jvm.Cond := lw_tbl.filter goodWord
def a_nest : Jvm.Cond → Bool
  | .fieldLinkNest .. => true
  | .methodLinkNest .. => true
  | _ => false
def wN : List Jvm.Cond := lw_tbl.filter a_nest
theorem wG_in {w : Jvm.Cond} (h : w ∈ lw_tbl) (g : goodWord w = true) : w ∈ wG := List.mem_filter.mpr ⟨h, g⟩
theorem wN_in {w : Jvm.Cond} (h : w ∈ lw_tbl) (g : a_nest w = true) : w ∈ wN := List.mem_filter.mpr ⟨h, g⟩
def a_FL : List (Nat × Nat × Nat × Nat × Nat) := [(0, 12, 0, 0, 309), (0, 19, 1, 0, 310), (0, 28, 2, 0, 311), (0, 35, 3, 0, 312), (0, 100, 320, 1, 204), (0, 104, 321, 1, 207), (0, 132, 256, 1, 225), (1, 9, 64, 0, 78), (1, 15, 65, 0, 81), (1, 18, 66, 0, 84), (1, 21, 67, 0, 87), (1, 24, 68, 0, 90), (1, 27, 69, 0, 93), (1, 30, 70, 0, 94), (2, 9, 128, 0, 117), (2, 15, 129, 0, 120), (2, 18, 130, 0, 123), (2, 21, 131, 0, 126), (2, 24, 132, 0, 127), (2, 27, 133, 0, 128), (2, 30, 134, 0, 129), (2, 33, 136, 0, 132), (2, 36, 137, 0, 133), (2, 39, 138, 0, 134), (2, 42, 135, 0, 130), (2, 46, 139, 0, 135), (3, 11, 194, 0, 248), (3, 18, 195, 0, 249), (3, 22, 196, 0, 250), (3, 26, 197, 0, 251), (3, 29, 199, 0, 253), (3, 33, 192, 0, 246), (3, 42, 193, 0, 247), (3, 46, 135, 1, 131), (3, 51, 198, 0, 252), (3, 90, 128, 1, 118), (3, 94, 129, 1, 121), (3, 109, 130, 1, 125), (3, 116, 449, 1, 239), (3, 144, 256, 1, 224), (4, 11, 256, 0, 222), (4, 21, 323, 1, 211), (5, 12, 320, 0, 202), (5, 18, 321, 0, 205), (5, 24, 322, 0, 208), (5, 28, 323, 0, 210), (5, 74, 385, 1, 196), (5, 78, 384, 1, 193), (6, 12, 384, 0, 191), (6, 16, 385, 0, 194), (7, 11, 449, 0, 238), (7, 17, 448, 0, 237), (7, 25, 64, 1, 79), (7, 35, 67, 1, 88), (7, 54, 68, 1, 91), (7, 61, 66, 1, 85), (7, 64, 65, 1, 82), (7, 67, 320, 1, 203), (7, 77, 321, 1, 206), (7, 80, 322, 1, 209), (7, 84, 256, 1, 223), (7, 93, 323, 1, 212), (7, 133, 384, 1, 192), (7, 137, 385, 1, 195), (8, 9, 514, 0, 285), (8, 15, 517, 0, 288), (8, 19, 519, 0, 290), (8, 23, 512, 0, 283), (8, 27, 513, 0, 284), (8, 41, 515, 0, 286), (8, 54, 516, 0, 287), (8, 67, 518, 0, 289), (8, 78, 130, 1, 124), (8, 89, 128, 1, 119), (8, 92, 129, 1, 122), (8, 113, 64, 1, 80), (8, 122, 67, 1, 89), (8, 131, 68, 1, 92), (8, 138, 66, 1, 86), (8, 141, 65, 1, 83), (9, 7, 577, 0, 841), (9, 13, 578, 0, 842), (9, 16, 579, 0, 843), (9, 19, 580, 0, 844), (9, 22, 582, 0, 846), (9, 25, 583, 0, 847), (9, 28, 584, 0, 848), (9, 31, 585, 0, 849), (9, 34, 586, 0, 850), (9, 37, 587, 0, 851), (9, 40, 588, 0, 852), (9, 43, 589, 0, 853), (9, 46, 591, 0, 855), (9, 49, 593, 0, 857), (9, 52, 594, 0, 858), (9, 56, 595, 0, 859), (9, 59, 596, 0, 860), (9, 62, 597, 0, 861), (9, 65, 599, 0, 863), (9, 68, 600, 0, 864), (9, 71, 601, 0, 865), (9, 74, 602, 0, 866), (9, 77, 603, 0, 867), (9, 80, 604, 0, 868), (9, 83, 606, 0, 870), (9, 86, 607, 0, 871), (9, 89, 609, 0, 873), (9, 92, 610, 0, 874), (9, 95, 612, 0, 876), (9, 98, 615, 0, 879), (9, 102, 616, 0, 880), (9, 105, 617, 0, 881), (9, 109, 620, 0, 884), (9, 112, 621, 0, 885), (9, 115, 622, 0, 886), (9, 118, 623, 0, 887), (9, 123, 576, 0, 840), (9, 130, 581, 0, 845), (9, 133, 590, 0, 854), (9, 140, 592, 0, 856), (9, 147, 613, 0, 877), (9, 150, 614, 0, 878), (9, 172, 611, 0, 875), (9, 182, 605, 0, 869), (9, 197, 608, 0, 872), (9, 229, 598, 0, 862), (9, 280, 619, 0, 883), (9, 285, 618, 0, 882)]
def a_ML : List (Nat × Nat × Nat × Nat × Nat) := [(0, 3, 0, 0, 69), (0, 11, 24, 1, 74), (0, 18, 31, 0, 113), (0, 25, 45, 0, 163), (0, 34, 110, 0, 273), (0, 39, 26, 0, 326), (0, 43, 28, 0, 342), (0, 47, 22, 0, 357), (0, 51, 25, 0, 358), (0, 54, 35, 0, 359), (0, 57, 23, 0, 371), (0, 60, 40, 0, 378), (0, 64, 37, 0, 386), (0, 67, 38, 0, 403), (0, 71, 39, 0, 411), (0, 74, 111, 0, 419), (0, 77, 33, 0, 429), (0, 80, 48, 0, 433), (0, 83, 32, 0, 702), (0, 84, 47, 0, 706), (0, 88, 21, 0, 714), (0, 92, 66, 0, 722), (0, 97, 15, 0, 730), (0, 107, 99, 0, 731), (0, 112, 100, 0, 735), (0, 115, 115, 0, 743), (0, 119, 112, 0, 814), (0, 122, 113, 0, 822), (0, 125, 114, 0, 830), (0, 128, 46, 0, 718), (1, 3, 0, 0, 77), (1, 34, 27, 0, 330), (1, 40, 22, 1, 335), (1, 44, 25, 0, 346), (1, 47, 29, 0, 350), (2, 3, 0, 0, 116), (2, 49, 36, 0, 363), (2, 53, 35, 0, 390), (2, 57, 43, 0, 639), (2, 61, 42, 0, 635), (3, 3, 0, 0, 166), (3, 17, 57, 0, 170), (3, 39, 101, 0, 231), (3, 54, 49, 0, 437), (3, 57, 59, 0, 450), (3, 60, 41, 0, 454), (3, 64, 51, 0, 458), (3, 69, 34, 0, 475), (3, 73, 53, 0, 479), (3, 77, 52, 0, 690), (3, 80, 50, 0, 694), (3, 83, 58, 0, 441), (3, 86, 61, 0, 462), (3, 97, 56, 0, 627), (3, 101, 43, 0, 654), (3, 105, 42, 0, 688), (3, 112, 102, 1, 483), (3, 120, 54, 0, 643), (3, 124, 70, 0, 655), (3, 130, 55, 0, 656), (3, 134, 71, 0, 689), (3, 137, 67, 0, 647), (3, 140, 60, 0, 648), (3, 147, 64, 0, 653), (3, 150, 109, 0, 660), (3, 154, 44, 0, 631), (4, 3, 0, 0, 173), (4, 17, 62, 1, 177), (4, 18, 63, 0, 445), (4, 25, 64, 0, 652), (4, 29, 65, 0, 466), (5, 3, 0, 0, 180), (5, 11, 79, 0, 183), (5, 21, 80, 0, 449), (5, 31, 81, 0, 500), (5, 35, 83, 0, 470), (5, 39, 85, 0, 514), (5, 43, 88, 0, 534), (5, 47, 87, 0, 526), (5, 50, 86, 0, 622), (5, 53, 89, 0, 610), (5, 56, 72, 0, 618), (5, 59, 73, 0, 626), (5, 63, 82, 0, 542), (5, 67, 93, 0, 680), (5, 71, 92, 0, 672), (6, 1, 0, 0, 186), (6, 7, 80, 0, 187), (6, 19, 82, 0, 508), (6, 23, 190, 0, 581), (6, 29, 191, 0, 578), (6, 32, 85, 0, 555), (6, 36, 98, 0, 574), (6, 40, 188, 0, 589), (7, 3, 0, 0, 234), (7, 21, 62, 1, 236), (7, 22, 63, 0, 487), (7, 31, 103, 0, 488), (7, 38, 102, 0, 509), (7, 42, 67, 0, 510), (7, 46, 29, 0, 518), (7, 50, 104, 0, 519), (7, 57, 105, 0, 548), (7, 71, 82, 0, 492), (7, 89, 64, 0, 496), (7, 96, 84, 0, 504), (7, 99, 71, 0, 522), (7, 102, 70, 0, 530), (7, 105, 75, 0, 538), (7, 109, 83, 0, 543), (7, 113, 69, 0, 544), (7, 116, 94, 0, 551), (7, 120, 106, 0, 556), (7, 124, 95, 0, 563), (7, 127, 107, 0, 567), (7, 130, 96, 0, 570), (7, 140, 191, 0, 584), (7, 146, 97, 0, 585), (7, 150, 190, 0, 592), (7, 153, 108, 0, 593), (7, 156, 90, 0, 598), (7, 159, 91, 0, 602), (7, 162, 73, 0, 606), (7, 166, 74, 0, 614), (7, 169, 68, 0, 559), (7, 172, 85, 0, 596), (7, 175, 87, 0, 597), (7, 178, 30, 0, 664), (7, 182, 77, 0, 668), (7, 186, 78, 0, 676), (7, 189, 76, 0, 684), (8, 3, 0, 0, 276), (8, 31, 128, 0, 277), (8, 35, 192, 0, 280), (8, 46, 129, 0, 762), (8, 50, 130, 0, 777), (8, 57, 41, 0, 747), (8, 63, 117, 0, 748), (8, 70, 116, 0, 803), (8, 74, 34, 0, 752), (8, 81, 120, 0, 753), (8, 85, 118, 0, 795), (8, 95, 119, 0, 799), (8, 98, 43, 0, 808), (8, 101, 42, 0, 809), (8, 104, 127, 0, 774), (8, 108, 44, 0, 807), (8, 118, 121, 0, 758), (8, 125, 29, 0, 770), (8, 128, 123, 0, 771), (8, 134, 124, 0, 783), (8, 146, 122, 0, 766), (8, 149, 126, 0, 780), (8, 153, 125, 0, 786), (8, 158, 189, 0, 792), (9, 1, 0, 0, 839), (9, 126, 134, 0, 995), (9, 136, 136, 0, 1003), (9, 143, 146, 0, 1143), (9, 154, 152, 0, 1120), (9, 160, 153, 0, 1125), (9, 164, 151, 0, 1128), (9, 175, 155, 0, 1083), (9, 179, 156, 0, 1088), (9, 185, 159, 0, 1109), (9, 189, 160, 0, 1112), (9, 193, 161, 0, 1105), (9, 200, 157, 0, 1075), (9, 203, 158, 0, 1079), (9, 210, 163, 0, 1093), (9, 213, 162, 0, 1101), (9, 216, 154, 0, 1116), (9, 220, 164, 0, 1071), (9, 223, 165, 0, 1097), (9, 226, 169, 0, 1159), (9, 233, 171, 0, 1055), (9, 237, 149, 0, 1135), (9, 241, 147, 0, 1139), (9, 244, 172, 0, 1051), (9, 247, 170, 0, 1063), (9, 250, 166, 0, 1067), (9, 253, 173, 0, 1131), (9, 256, 148, 0, 1147), (9, 259, 167, 0, 1151), (9, 263, 168, 0, 1155), (9, 267, 132, 0, 1043), (9, 270, 150, 0, 1047), (9, 274, 174, 0, 1059), (9, 277, 177, 0, 1175), (9, 288, 179, 0, 1188), (9, 291, 180, 0, 1192), (9, 298, 181, 0, 1184), (9, 301, 182, 0, 1180), (10, 9, 1, 0, 66), (10, 12, 131, 0, 836), (10, 13, 2, 0, 322), (10, 17, 133, 0, 985), (10, 18, 3, 0, 338), (10, 22, 135, 0, 991), (10, 23, 4, 0, 353), (10, 26, 137, 0, 999), (10, 27, 5, 0, 367), (10, 31, 138, 0, 1007), (10, 32, 6, 0, 374), (10, 36, 139, 0, 1011), (10, 37, 7, 0, 382), (10, 40, 140, 0, 1015), (10, 41, 8, 0, 391), (10, 44, 141, 0, 1019), (10, 45, 9, 0, 395), (10, 48, 142, 0, 1023), (10, 49, 10, 0, 399), (10, 53, 143, 0, 1027), (10, 54, 11, 0, 407), (10, 57, 144, 0, 1031), (10, 58, 12, 0, 415), (10, 62, 145, 0, 1035), (10, 63, 13, 0, 425), (10, 67, 175, 0, 1039), (10, 68, 14, 0, 698), (10, 72, 176, 0, 1163), (10, 73, 15, 0, 710), (10, 76, 177, 0, 1167), (10, 77, 16, 0, 726), (10, 80, 178, 0, 1171), (10, 81, 17, 0, 739), (10, 84, 183, 0, 1176), (10, 85, 18, 0, 810), (10, 88, 184, 0, 1199), (10, 89, 19, 0, 818), (10, 92, 185, 0, 1203), (10, 93, 20, 0, 826), (10, 96, 186, 0, 1207)]
def a_CL : List (Nat × Nat × Nat × Nat × Nat) := [(0, 9, 1, 0, 72), (0, 16, 2, 0, 111), (0, 23, 3, 0, 161), (0, 32, 8, 0, 271), (3, 9, 4, 0, 167), (3, 37, 7, 0, 229), (4, 9, 5, 0, 174), (5, 9, 6, 0, 181), (7, 9, 5, 0, 235), (10, 7, 0, 0, 64), (10, 10, 9, 0, 834)]
def a_KI : List (Nat × Nat × Int × Nat × Nat) := [(1, 38, (-1000000000), 0, 333), (1, 39, 1000000000, 0, 334), (3, 68, 1000000, 0, 474), (8, 44, (-1000000000), 0, 423), (8, 45, 1000000000, 0, 424), (9, 121, (-1000000000), 0, 989), (9, 122, 1000000000, 0, 990)]
def a_KL : List (Nat × Nat × Int × Nat × Nat) := [(8, 111, 9, 0, 757), (8, 144, 2, 0, 765), (8, 156, 3, 0, 791), (8, 164, (-1000000000), 0, 789), (8, 166, 1000000000, 0, 790), (9, 158, 3, 0, 1124), (9, 168, (-16), 0, 1086), (9, 170, 16, 0, 1087), (9, 206, (-289), 0, 1091), (9, 208, 289, 0, 1092), (9, 283, 2, 0, 1196), (9, 294, 1000000000, 0, 1197), (9, 296, (-1000000000), 0, 1198)]
def a_find {α : Type} (l : List (Nat × Nat × α × Nat × Nat)) (o i : Nat) : Option (α × Nat) := (l.find? (fun e => e.1 == o && e.2.1 == i)).map (fun e => (e.2.2.1, e.2.2.2.1))
theorem a_wI : a_at 110 (.arrayClass .int) = true := by decide +kernel
theorem a_wZ : a_at 245 (.arrayClass .boolean) = true := by decide +kernel
theorem a_wL : a_at 308 (.arrayClass .long) = true := by decide +kernel
theorem a_wS : a_at 168 (.arrayOver (.object "TypeForecast$State")) = true := by decide +kernel
theorem a_wP : a_at 175 (.arrayOver (.object "TypeForecast$Picture")) = true := by decide +kernel
theorem a_wOi : a_at 70 (.instanceMethod objectInit) = true := by decide +kernel
theorem a_wOc : a_at 71 (.code objectInit ⟨#[0xb1]⟩ 1 none) = true := by decide +kernel
def a_hu0 : List Nat := [313, 315, 317, 319]
def a_hu1 : List Nat := [95, 97, 99, 101, 103, 105, 107]
def a_hu2 : List Nat := [136, 138, 140, 142, 144, 146, 148, 150, 152, 154, 156, 158]
def a_hu3 : List Nat := [254, 256, 258, 260, 262, 264, 266, 268]
def a_hu4 : List Nat := [226]
def a_hu5 : List Nat := [213, 215, 217, 219]
def a_hu6 : List Nat := [197, 199]
def a_hu7 : List Nat := [240, 242]
def a_hu8 : List Nat := [291, 293, 295, 297, 299, 301, 303, 305]
def a_hu9 : List Nat := [888, 890, 892, 894, 896, 898, 900, 902, 904, 906, 908, 910, 912, 914, 916, 918, 920, 922, 924, 926, 928, 930, 932, 934, 936, 938, 940, 942, 944, 946, 948, 950, 952, 954, 956, 958, 960, 962, 964, 966, 968, 970, 972, 974, 976, 978, 980, 982]
def a_hu : List (List Nat) := [a_hu0, a_hu1, a_hu2, a_hu3, a_hu4, a_hu5, a_hu6, a_hu7, a_hu8, a_hu9]
def a_hi : List Nat := [65, 73, 112, 162, 169, 176, 182, 230, 272, 835]
def a_iiL : List Nat := [1, 24, 31, 45, 57, 62, 79, 101, 110, 131]
def a_okC (ci : Nat) : Bool := (List.range (a_nf ci)).all (fun k => a_at ((a_hu.getD ci []).getD k 0) (u_lay (aC ci) (a_Tf ci) k) && decide ((a_Tf ci k).1 = aC ci) && decide (parseFieldDescriptor (a_Tf ci k).2.2.1 = some (a_tyk ci k)) && (List.range (a_nf ci)).all (fun j => decide (k = j ∨ (a_Tf ci k).2.1 ≠ (a_Tf ci j).2.1)) && decide (a_kd ci k = match a_tyk ci k with | .int => 0 | .boolean => 1 | .long => 2 | .object _ => 3 | .array _ => 3 | _ => 9)) && a_at (a_hi.getD ci 0) (.instantiable (aC ci) (a_nf ci)) && a_at ((m_h ((a_iiL.getD ci 0))).getD 3 0) (.initialized (aC ci)) && decide (m_o ((a_iiL.getD ci 0)) = ci)
theorem a_okC0 : a_okC 0 = true := by decide +kernel
theorem a_okC1 : a_okC 1 = true := by decide +kernel
theorem a_okC2 : a_okC 2 = true := by decide +kernel
theorem a_okC3 : a_okC 3 = true := by decide +kernel
theorem a_okC4 : a_okC 4 = true := by decide +kernel
theorem a_okC5 : a_okC 5 = true := by decide +kernel
theorem a_okC6 : a_okC 6 = true := by decide +kernel
theorem a_okC7 : a_okC 7 = true := by decide +kernel
theorem a_okC8 : a_okC 8 = true := by decide +kernel
theorem a_okC9 : a_okC 9 = true := by decide +kernel
theorem a_okCs : ∀ ci, ci < 10 → a_okC ci = true := fun ci h => match ci, h with
  | 0, _ => a_okC0
  | 1, _ => a_okC1
  | 2, _ => a_okC2
  | 3, _ => a_okC3
  | 4, _ => a_okC4
  | 5, _ => a_okC5
  | 6, _ => a_okC6
  | 7, _ => a_okC7
  | 8, _ => a_okC8
  | 9, _ => a_okC9
  | _ + 10, h => absurd h (by omega)
def a_okM (i : Nat) : Bool := decide (m_o i < 13) && decide ((m_y i).cls = aC (m_o i)) && (match lw_tbl[(m_h i).getD 0 0]? with | some (.code y _ n r) => decide (y = m_y i) && decide (n = m_nl i) && decide (r = m_rt i) | _ => false) && (if m_k i = 1 then a_at ((m_h i).getD 1 0) (.static (m_y i)) else a_at ((m_h i).getD 1 0) (.instanceMethod (m_y i))) && (if m_k i = 0 then a_at ((m_h i).getD 2 0) (.selects (m_y i).cls (m_y i) (m_y i)) else true) && a_at ((m_h i).getD 3 0) (.initialized (m_y i).cls) && decide ((m_y i).cls ≠ "java/lang/invoke/MethodHandle") && decide ((m_y i).cls ≠ "java/lang/invoke/VarHandle") && decide ((parseMethodDescriptor (m_y i).desc).map (fun d => d.parameters.length) = some (m_np i)) && plainFor (m_y i) && decide (m_nl i ≤ 20) && (decide (m_k i ≠ 2) || (decide ((m_y i).name = "<init>") && decide (m_rt i = none)))
theorem a_okM_0 : ∀ i ∈ (List.range 13).filter (fun i => decide (1 ≤ i ∧ i ≠ 187)), a_okM i = true := by decide +kernel
theorem a_okM_1 : ∀ i ∈ (List.range 25).filter (fun i => decide (13 ≤ i ∧ i ≠ 187)), a_okM i = true := by decide +kernel
theorem a_okM_2 : ∀ i ∈ (List.range 37).filter (fun i => decide (25 ≤ i ∧ i ≠ 187)), a_okM i = true := by decide +kernel
theorem a_okM_3 : ∀ i ∈ (List.range 49).filter (fun i => decide (37 ≤ i ∧ i ≠ 187)), a_okM i = true := by decide +kernel
theorem a_okM_4 : ∀ i ∈ (List.range 61).filter (fun i => decide (49 ≤ i ∧ i ≠ 187)), a_okM i = true := by decide +kernel
theorem a_okM_5 : ∀ i ∈ (List.range 73).filter (fun i => decide (61 ≤ i ∧ i ≠ 187)), a_okM i = true := by decide +kernel
theorem a_okM_6 : ∀ i ∈ (List.range 85).filter (fun i => decide (73 ≤ i ∧ i ≠ 187)), a_okM i = true := by decide +kernel
theorem a_okM_7 : ∀ i ∈ (List.range 97).filter (fun i => decide (85 ≤ i ∧ i ≠ 187)), a_okM i = true := by decide +kernel
theorem a_okM_8 : ∀ i ∈ (List.range 109).filter (fun i => decide (97 ≤ i ∧ i ≠ 187)), a_okM i = true := by decide +kernel
theorem a_okM_9 : ∀ i ∈ (List.range 121).filter (fun i => decide (109 ≤ i ∧ i ≠ 187)), a_okM i = true := by decide +kernel
theorem a_okM_10 : ∀ i ∈ (List.range 133).filter (fun i => decide (121 ≤ i ∧ i ≠ 187)), a_okM i = true := by decide +kernel
theorem a_okM_11 : ∀ i ∈ (List.range 145).filter (fun i => decide (133 ≤ i ∧ i ≠ 187)), a_okM i = true := by decide +kernel
theorem a_okM_12 : ∀ i ∈ (List.range 157).filter (fun i => decide (145 ≤ i ∧ i ≠ 187)), a_okM i = true := by decide +kernel
theorem a_okM_13 : ∀ i ∈ (List.range 169).filter (fun i => decide (157 ≤ i ∧ i ≠ 187)), a_okM i = true := by decide +kernel
theorem a_okM_14 : ∀ i ∈ (List.range 181).filter (fun i => decide (169 ≤ i ∧ i ≠ 187)), a_okM i = true := by decide +kernel
theorem a_okM_15 : ∀ i ∈ (List.range 193).filter (fun i => decide (181 ≤ i ∧ i ≠ 187)), a_okM i = true := by decide +kernel
theorem a_okMs : ∀ i, 0 < i → i < 193 → i ≠ 187 → a_okM i = true := fun i h0 h1 h2 => if _h : i < 13 then a_okM_0 i (List.mem_filter.mpr ⟨List.mem_range.mpr (by omega), decide_eq_true ⟨by omega, h2⟩⟩) else if _h : i < 25 then a_okM_1 i (List.mem_filter.mpr ⟨List.mem_range.mpr (by omega), decide_eq_true ⟨by omega, h2⟩⟩) else if _h : i < 37 then a_okM_2 i (List.mem_filter.mpr ⟨List.mem_range.mpr (by omega), decide_eq_true ⟨by omega, h2⟩⟩) else if _h : i < 49 then a_okM_3 i (List.mem_filter.mpr ⟨List.mem_range.mpr (by omega), decide_eq_true ⟨by omega, h2⟩⟩) else if _h : i < 61 then a_okM_4 i (List.mem_filter.mpr ⟨List.mem_range.mpr (by omega), decide_eq_true ⟨by omega, h2⟩⟩) else if _h : i < 73 then a_okM_5 i (List.mem_filter.mpr ⟨List.mem_range.mpr (by omega), decide_eq_true ⟨by omega, h2⟩⟩) else if _h : i < 85 then a_okM_6 i (List.mem_filter.mpr ⟨List.mem_range.mpr (by omega), decide_eq_true ⟨by omega, h2⟩⟩) else if _h : i < 97 then a_okM_7 i (List.mem_filter.mpr ⟨List.mem_range.mpr (by omega), decide_eq_true ⟨by omega, h2⟩⟩) else if _h : i < 109 then a_okM_8 i (List.mem_filter.mpr ⟨List.mem_range.mpr (by omega), decide_eq_true ⟨by omega, h2⟩⟩) else if _h : i < 121 then a_okM_9 i (List.mem_filter.mpr ⟨List.mem_range.mpr (by omega), decide_eq_true ⟨by omega, h2⟩⟩) else if _h : i < 133 then a_okM_10 i (List.mem_filter.mpr ⟨List.mem_range.mpr (by omega), decide_eq_true ⟨by omega, h2⟩⟩) else if _h : i < 145 then a_okM_11 i (List.mem_filter.mpr ⟨List.mem_range.mpr (by omega), decide_eq_true ⟨by omega, h2⟩⟩) else if _h : i < 157 then a_okM_12 i (List.mem_filter.mpr ⟨List.mem_range.mpr (by omega), decide_eq_true ⟨by omega, h2⟩⟩) else if _h : i < 169 then a_okM_13 i (List.mem_filter.mpr ⟨List.mem_range.mpr (by omega), decide_eq_true ⟨by omega, h2⟩⟩) else if _h : i < 181 then a_okM_14 i (List.mem_filter.mpr ⟨List.mem_range.mpr (by omega), decide_eq_true ⟨by omega, h2⟩⟩) else a_okM_15 i (List.mem_filter.mpr ⟨List.mem_range.mpr (by omega), decide_eq_true ⟨by omega, h2⟩⟩)
theorem a_okFL : ∀ e ∈ a_FL, (decide (e.2.2.1 / 64 < 10) && decide (e.2.2.1 % 64 < a_nf (e.2.2.1 / 64)) && a_at e.2.2.2.2 (if e.2.2.2.1 = 1 then .fieldLinkNest (aC e.1) e.2.1 (aC (e.2.2.1 / 64)) (a_Tf (e.2.2.1 / 64) (e.2.2.1 % 64)).2.1 (a_Tf (e.2.2.1 / 64) (e.2.2.1 % 64)).2.2.1 "TypeForecast" else .fieldLink (aC e.1) e.2.1 (aC (e.2.2.1 / 64)) (a_Tf (e.2.2.1 / 64) (e.2.2.1 % 64)).2.1 (a_Tf (e.2.2.1 / 64) (e.2.2.1 % 64)).2.2.1)) = true := by decide +kernel
theorem a_okML : ∀ e ∈ a_ML, (decide (e.2.2.1 < 193) && decide (e.2.2.1 ≠ 187) && a_at e.2.2.2.2 (if e.2.2.1 = 0 then .methodLink (aC e.1) e.2.1 objectInit else if e.2.2.2.1 = 1 then .methodLinkNest (aC e.1) e.2.1 (m_y e.2.2.1) "TypeForecast" else .methodLink (aC e.1) e.2.1 (m_y e.2.2.1))) = true := by decide +kernel
theorem a_okCL : ∀ e ∈ a_CL, (decide (e.2.2.1 < 10) && a_at e.2.2.2.2 (.classLink (aC e.1) e.2.1 (aC e.2.2.1))) = true := by decide +kernel
theorem a_okKI : ∀ e ∈ a_KI, a_at e.2.2.2.2 (.constant (aC e.1) e.2.1 (Int32.ofInt e.2.2.1)) = true := by decide +kernel
theorem a_okKL : ∀ e ∈ a_KL, a_at e.2.2.2.2 (.constantLong (aC e.1) e.2.1 (Int64.ofInt e.2.2.1)) = true := by decide +kernel
