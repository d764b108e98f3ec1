/-! THE TABLES, by wip/gen.py out of the Statement: classes and fields. -/
def tb_T0 : u_T := fun k => match k with
  | 0 => ("IndexedCompiler", "line", "LIndexedCompiler$Line;", true)
  | 1 => ("IndexedCompiler", "reader", "LIndexedCompiler$Reader;", true)
  | 2 => ("IndexedCompiler", "trees", "[LIndexedCompiler$Tree;", true)
  | 3 => ("IndexedCompiler", "checker", "LIndexedCompiler$Checker;", true)
  | 4 => ("IndexedCompiler", "coder", "LIndexedCompiler$Coder;", true)
  | 5 => ("IndexedCompiler", "slots", "LIndexedCompiler$Slots;", true)
  | 6 => ("IndexedCompiler", "machine", "LIndexedCompiler$Machine;", true)
  | 7 => ("IndexedCompiler", "desk", "LIndexedCompiler$Ground;", true)
  | 8 => ("IndexedCompiler", "asked", "LIndexedCompiler$Expression;", true)
  | 9 => ("IndexedCompiler", "functions", "I", false)
  | 10 => ("IndexedCompiler", "lastPlace", "I", false)
  | _ => ("IndexedCompiler", "checked", "Z", false)
def tb_F0 : List (FieldType × Bool) := [((.object "IndexedCompiler$Line"), true), ((.object "IndexedCompiler$Reader"), true), ((.array (.object "IndexedCompiler$Tree")), true), ((.object "IndexedCompiler$Checker"), true), ((.object "IndexedCompiler$Coder"), true), ((.object "IndexedCompiler$Slots"), true), ((.object "IndexedCompiler$Machine"), true), ((.object "IndexedCompiler$Ground"), true), ((.object "IndexedCompiler$Expression"), true), (.int, false), (.int, false), (.boolean, false)]
def tb_T1 : u_T := fun k => match k with
  | 0 => ("IndexedCompiler$Line", "signs", "[C", true)
  | 1 => ("IndexedCompiler$Line", "length", "I", false)
  | 2 => ("IndexedCompiler$Line", "kinds", "[I", true)
  | 3 => ("IndexedCompiler$Line", "places", "[I", true)
  | 4 => ("IndexedCompiler$Line", "worths", "[I", true)
  | 5 => ("IndexedCompiler$Line", "many", "I", false)
  | 6 => ("IndexedCompiler$Line", "next", "I", false)
  | 7 => ("IndexedCompiler$Line", "kind", "I", false)
  | 8 => ("IndexedCompiler$Line", "at", "I", false)
  | _ => ("IndexedCompiler$Line", "worth", "I", false)
def tb_F1 : List (FieldType × Bool) := [((.array .char), true), (.int, false), ((.array .int), true), ((.array .int), true), ((.array .int), true), (.int, false), (.int, false), (.int, false), (.int, false), (.int, false)]
def tb_T2 : u_T := fun k => match k with
  | 0 => ("IndexedCompiler$Reader", "line", "LIndexedCompiler$Line;", false)
  | 1 => ("IndexedCompiler$Reader", "tree", "LIndexedCompiler$Tree;", false)
  | _ => ("IndexedCompiler$Reader", "wrongAt", "I", false)
def tb_F2 : List (FieldType × Bool) := [((.object "IndexedCompiler$Line"), false), ((.object "IndexedCompiler$Tree"), false), (.int, false)]
def tb_T3 : u_T := fun k => match k with
  | 0 => ("IndexedCompiler$Solver", "rows", "[J", false)
  | 1 => ("IndexedCompiler$Solver", "others", "[J", false)
  | 2 => ("IndexedCompiler$Solver", "work", "[J", true)
  | 3 => ("IndexedCompiler$Solver", "kept", "I", false)
  | 4 => ("IndexedCompiler$Solver", "width", "I", false)
  | 5 => ("IndexedCompiler$Solver", "tooMuch", "Z", false)
  | _ => ("IndexedCompiler$Solver", "isFalse", "Z", false)
def tb_F3 : List (FieldType × Bool) := [((.array .long), false), ((.array .long), false), ((.array .long), true), (.int, false), (.int, false), (.boolean, false), (.boolean, false)]
def tb_T4 : u_T := fun k => match k with
  | 0 => ("IndexedCompiler$Expression", "numbers", "[J", true)
  | _ => ("IndexedCompiler$Expression", "row", "Z", false)
def tb_F4 : List (FieldType × Bool) := [((.array .long), true), (.boolean, false)]
def tb_T5 : u_T := fun k => match k with
  | 0 => ("IndexedCompiler$Ground", "solver", "LIndexedCompiler$Solver;", true)
  | 1 => ("IndexedCompiler$Ground", "factRows", "[J", true)
  | 2 => ("IndexedCompiler$Ground", "mostFacts", "I", true)
  | 3 => ("IndexedCompiler$Ground", "goalRows", "[I", true)
  | 4 => ("IndexedCompiler$Ground", "mostGoals", "I", true)
  | 5 => ("IndexedCompiler$Ground", "pending", "[LIndexedCompiler$Expression;", true)
  | 6 => ("IndexedCompiler$Ground", "pendings", "I", false)
  | 7 => ("IndexedCompiler$Ground", "facts", "I", false)
  | 8 => ("IndexedCompiler$Ground", "variables", "I", false)
  | 9 => ("IndexedCompiler$Ground", "goals", "I", false)
  | 10 => ("IndexedCompiler$Ground", "proved", "I", false)
  | 11 => ("IndexedCompiler$Ground", "allNeededProved", "Z", false)
  | 12 => ("IndexedCompiler$Ground", "fault", "I", false)
  | _ => ("IndexedCompiler$Ground", "faultPlace", "I", false)
def tb_F5 : List (FieldType × Bool) := [((.object "IndexedCompiler$Solver"), true), ((.array .long), true), (.int, true), ((.array .int), true), (.int, true), ((.array (.object "IndexedCompiler$Expression")), true), (.int, false), (.int, false), (.int, false), (.int, false), (.int, false), (.boolean, false), (.int, false), (.int, false)]
def tb_T6 : u_T := fun k => match k with
  | 0 => ("IndexedCompiler$Checker", "ground", "LIndexedCompiler$Ground;", true)
  | 1 => ("IndexedCompiler$Checker", "trees", "[LIndexedCompiler$Tree;", false)
  | 2 => ("IndexedCompiler$Checker", "tree", "LIndexedCompiler$Tree;", false)
  | 3 => ("IndexedCompiler$Checker", "functions", "I", false)
  | 4 => ("IndexedCompiler$Checker", "function", "I", false)
  | 5 => ("IndexedCompiler$Checker", "pool", "[LIndexedCompiler$Expression;", true)
  | 6 => ("IndexedCompiler$Checker", "taken", "I", false)
  | 7 => ("IndexedCompiler$Checker", "shapes", "[LIndexedCompiler$Shape;", true)
  | 8 => ("IndexedCompiler$Checker", "shapesTaken", "I", false)
  | 9 => ("IndexedCompiler$Checker", "words", "[I", true)
  | 10 => ("IndexedCompiler$Checker", "meanings", "[LIndexedCompiler$Expression;", true)
  | 11 => ("IndexedCompiler$Checker", "names", "I", false)
  | 12 => ("IndexedCompiler$Checker", "accesses", "I", false)
  | 13 => ("IndexedCompiler$Checker", "free", "I", false)
  | _ => ("IndexedCompiler$Checker", "accepted", "Z", false)
def tb_F6 : List (FieldType × Bool) := [((.object "IndexedCompiler$Ground"), true), ((.array (.object "IndexedCompiler$Tree")), false), ((.object "IndexedCompiler$Tree"), false), (.int, false), (.int, false), ((.array (.object "IndexedCompiler$Expression")), true), (.int, false), ((.array (.object "IndexedCompiler$Shape")), true), (.int, false), ((.array .int), true), ((.array (.object "IndexedCompiler$Expression")), true), (.int, false), (.int, false), (.int, false), (.boolean, false)]
def tb_T7 : u_T := fun k => match k with
  | 0 => ("IndexedCompiler$Coder", "codes", "[[I", true)
  | 1 => ("IndexedCompiler$Coder", "lengths", "[I", true)
  | 2 => ("IndexedCompiler$Coder", "parameters", "[I", true)
  | 3 => ("IndexedCompiler$Coder", "answersRow", "[Z", true)
  | 4 => ("IndexedCompiler$Coder", "tree", "LIndexedCompiler$Tree;", false)
  | 5 => ("IndexedCompiler$Coder", "code", "[I", false)
  | _ => ("IndexedCompiler$Coder", "length", "I", false)
def tb_F7 : List (FieldType × Bool) := [((.array (.array .int)), true), ((.array .int), true), ((.array .int), true), ((.array .boolean), true), ((.object "IndexedCompiler$Tree"), false), ((.array .int), false), (.int, false)]
def tb_T8 : u_T := fun k => match k with
  | 0 => ("IndexedCompiler$Slots", "isRow", "[Z", true)
  | 1 => ("IndexedCompiler$Slots", "sizes", "[I", true)
  | 2 => ("IndexedCompiler$Slots", "cells", "[I", true)
  | _ => ("IndexedCompiler$Slots", "values", "[I", true)
def tb_F8 : List (FieldType × Bool) := [((.array .boolean), true), ((.array .int), true), ((.array .int), true), ((.array .int), true)]
def tb_T9 : u_T := fun k => match k with
  | 0 => ("IndexedCompiler$Machine", "cells", "[I", true)
  | 1 => ("IndexedCompiler$Machine", "stack", "[I", true)
  | 2 => ("IndexedCompiler$Machine", "locals", "[I", true)
  | 3 => ("IndexedCompiler$Machine", "backTo", "[I", true)
  | 4 => ("IndexedCompiler$Machine", "backIn", "[I", true)
  | 5 => ("IndexedCompiler$Machine", "prints", "[I", true)
  | 6 => ("IndexedCompiler$Machine", "reports", "[I", true)
  | 7 => ("IndexedCompiler$Machine", "height", "I", false)
  | 8 => ("IndexedCompiler$Machine", "depth", "I", false)
  | 9 => ("IndexedCompiler$Machine", "function", "I", false)
  | 10 => ("IndexedCompiler$Machine", "next", "I", false)
  | 11 => ("IndexedCompiler$Machine", "how", "I", false)
  | 12 => ("IndexedCompiler$Machine", "answerRow", "I", false)
  | _ => ("IndexedCompiler$Machine", "coder", "LIndexedCompiler$Coder;", false)
def tb_F9 : List (FieldType × Bool) := [((.array .int), true), ((.array .int), true), ((.array .int), true), ((.array .int), true), ((.array .int), true), ((.array .int), true), ((.array .int), true), (.int, false), (.int, false), (.int, false), (.int, false), (.int, false), (.int, false), ((.object "IndexedCompiler$Coder"), false)]
def tb_T10 : u_T := fun k => match k with
  | 0 => ("IndexedCompiler$Tree", "nodes", "[I", true)
  | 1 => ("IndexedCompiler$Tree", "size", "I", false)
  | 2 => ("IndexedCompiler$Tree", "named", "I", false)
  | 3 => ("IndexedCompiler$Tree", "namedAt", "I", false)
  | 4 => ("IndexedCompiler$Tree", "indexNames", "I", false)
  | 5 => ("IndexedCompiler$Tree", "indexCount", "I", false)
  | 6 => ("IndexedCompiler$Tree", "props", "I", false)
  | 7 => ("IndexedCompiler$Tree", "parameters", "I", false)
  | 8 => ("IndexedCompiler$Tree", "parameterCount", "I", false)
  | 9 => ("IndexedCompiler$Tree", "result", "I", false)
  | _ => ("IndexedCompiler$Tree", "steps", "I", false)
def tb_F10 : List (FieldType × Bool) := [((.array .int), true), (.int, false), (.int, false), (.int, false), (.int, false), (.int, false), (.int, false), (.int, false), (.int, false), (.int, false), (.int, false)]
def tb_T11 : u_T := fun k => match k with
  | 0 => ("IndexedCompiler$Shape", "sort", "I", false)
  | 1 => ("IndexedCompiler$Shape", "index", "LIndexedCompiler$Expression;", true)
  | 2 => ("IndexedCompiler$Shape", "props", "I", false)
  | 3 => ("IndexedCompiler$Shape", "relations", "[I", true)
  | _ => ("IndexedCompiler$Shape", "gaps", "[LIndexedCompiler$Expression;", true)
def tb_F11 : List (FieldType × Bool) := [(.int, false), ((.object "IndexedCompiler$Expression"), true), (.int, false), ((.array .int), true), ((.array (.object "IndexedCompiler$Expression")), true)]
def tb_T12 : u_T := fun k => match k with
  | 0 => ("IndexedCompilerModel", "thrown", "I", false)
  | 1 => ("IndexedCompilerModel", "line", "[C", true)
  | 2 => ("IndexedCompilerModel", "lineSize", "I", false)
  | 3 => ("IndexedCompilerModel", "tokenKind", "[I", true)
  | 4 => ("IndexedCompilerModel", "tokenAt", "[I", true)
  | 5 => ("IndexedCompilerModel", "tokenCode", "[I", true)
  | 6 => ("IndexedCompilerModel", "token", "I", false)
  | 7 => ("IndexedCompilerModel", "faultPlace", "I", false)
  | 8 => ("IndexedCompilerModel", "isWrong", "Z", false)
  | 9 => ("IndexedCompilerModel", "wrongAt", "I", false)
  | 10 => ("IndexedCompilerModel", "functions", "I", false)
  | 11 => ("IndexedCompilerModel", "functionName", "[I", true)
  | 12 => ("IndexedCompilerModel", "indexNames", "[I", true)
  | 13 => ("IndexedCompilerModel", "indexMany", "[I", true)
  | 14 => ("IndexedCompilerModel", "ownProps", "[I", true)
  | 15 => ("IndexedCompilerModel", "ownMany", "[I", true)
  | 16 => ("IndexedCompilerModel", "paramNames", "[I", true)
  | 17 => ("IndexedCompilerModel", "paramTypes", "[I", true)
  | 18 => ("IndexedCompilerModel", "paramMany", "[I", true)
  | 19 => ("IndexedCompilerModel", "resultType", "[I", true)
  | 20 => ("IndexedCompilerModel", "body", "[I", true)
  | 21 => ("IndexedCompilerModel", "nodes", "I", false)
  | 22 => ("IndexedCompilerModel", "nodeKind", "[I", true)
  | 23 => ("IndexedCompilerModel", "nodeA", "[I", true)
  | 24 => ("IndexedCompilerModel", "nodeB", "[I", true)
  | 25 => ("IndexedCompilerModel", "nodeC", "[I", true)
  | 26 => ("IndexedCompilerModel", "nodeD", "[I", true)
  | 27 => ("IndexedCompilerModel", "nodeE", "[I", true)
  | 28 => ("IndexedCompilerModel", "nodeAt", "[I", true)
  | 29 => ("IndexedCompilerModel", "nodeFree", "[Z", true)
  | 30 => ("IndexedCompilerModel", "terms", "I", false)
  | 31 => ("IndexedCompilerModel", "termTimes", "[I", true)
  | 32 => ("IndexedCompilerModel", "termName", "[I", true)
  | 33 => ("IndexedCompilerModel", "termAt", "[I", true)
  | 34 => ("IndexedCompilerModel", "indexes", "I", false)
  | 35 => ("IndexedCompilerModel", "indexFirst", "[I", true)
  | 36 => ("IndexedCompilerModel", "indexTerms", "[I", true)
  | 37 => ("IndexedCompilerModel", "indexAt", "[I", true)
  | 38 => ("IndexedCompilerModel", "props", "I", false)
  | 39 => ("IndexedCompilerModel", "propLeft", "[I", true)
  | 40 => ("IndexedCompilerModel", "propRelation", "[I", true)
  | 41 => ("IndexedCompilerModel", "propRight", "[I", true)
  | 42 => ("IndexedCompilerModel", "types", "I", false)
  | 43 => ("IndexedCompilerModel", "typeKind", "[I", true)
  | 44 => ("IndexedCompilerModel", "typeIndex", "[I", true)
  | 45 => ("IndexedCompilerModel", "typeName", "[I", true)
  | 46 => ("IndexedCompilerModel", "typeProps", "[I", true)
  | 47 => ("IndexedCompilerModel", "typeMany", "[I", true)
  | 48 => ("IndexedCompilerModel", "args", "I", false)
  | 49 => ("IndexedCompilerModel", "argNodes", "[I", true)
  | 50 => ("IndexedCompilerModel", "sameAt", "I", false)
  | 51 => ("IndexedCompilerModel", "frames", "I", false)
  | 52 => ("IndexedCompilerModel", "frameKind", "[I", true)
  | 53 => ("IndexedCompilerModel", "frameState", "[I", true)
  | 54 => ("IndexedCompilerModel", "frameDeep", "[I", true)
  | 55 => ("IndexedCompilerModel", "frameNode", "[I", true)
  | 56 => ("IndexedCompilerModel", "frameOther", "[I", true)
  | 57 => ("IndexedCompilerModel", "frameThird", "[I", true)
  | 58 => ("IndexedCompilerModel", "frameFourth", "[I", true)
  | 59 => ("IndexedCompilerModel", "frameAt", "[I", true)
  | 60 => ("IndexedCompilerModel", "frameArgs", "[I", true)
  | 61 => ("IndexedCompilerModel", "given", "I", false)
  | 62 => ("IndexedCompilerModel", "goals", "I", false)
  | 63 => ("IndexedCompilerModel", "proved", "I", false)
  | 64 => ("IndexedCompilerModel", "accesses", "I", false)
  | 65 => ("IndexedCompilerModel", "freeOnes", "I", false)
  | 66 => ("IndexedCompilerModel", "faultFunction", "I", false)
  | 67 => ("IndexedCompilerModel", "isAccepted", "Z", false)
  | 68 => ("IndexedCompilerModel", "goalFunction", "[I", true)
  | 69 => ("IndexedCompilerModel", "goalAt", "[I", true)
  | 70 => ("IndexedCompilerModel", "goalSort", "[I", true)
  | 71 => ("IndexedCompilerModel", "goalProved", "[Z", true)
  | 72 => ("IndexedCompilerModel", "goalFacts", "[I", true)
  | 73 => ("IndexedCompilerModel", "goalVariables", "[I", true)
  | 74 => ("IndexedCompilerModel", "fault", "I", false)
  | 75 => ("IndexedCompilerModel", "checking", "I", false)
  | 76 => ("IndexedCompilerModel", "variables", "I", false)
  | 77 => ("IndexedCompilerModel", "facts", "I", false)
  | 78 => ("IndexedCompilerModel", "factRows", "[J", true)
  | 79 => ("IndexedCompilerModel", "named", "I", false)
  | 80 => ("IndexedCompilerModel", "envName", "[I", true)
  | 81 => ("IndexedCompilerModel", "envSort", "[I", true)
  | 82 => ("IndexedCompilerModel", "envRows", "[J", true)
  | 83 => ("IndexedCompilerModel", "top", "I", false)
  | 84 => ("IndexedCompilerModel", "valueRows", "[J", true)
  | 85 => ("IndexedCompilerModel", "valueIsRow", "[Z", true)
  | 86 => ("IndexedCompilerModel", "one", "[J", true)
  | 87 => ("IndexedCompilerModel", "left", "[J", true)
  | 88 => ("IndexedCompilerModel", "right", "[J", true)
  | 89 => ("IndexedCompilerModel", "goal", "[J", true)
  | 90 => ("IndexedCompilerModel", "envFrom", "I", false)
  | 91 => ("IndexedCompilerModel", "iName", "I", false)
  | 92 => ("IndexedCompilerModel", "iAt", "I", false)
  | 93 => ("IndexedCompilerModel", "iTimes", "J", false)
  | 94 => ("IndexedCompilerModel", "envTo", "I", false)
  | 95 => ("IndexedCompilerModel", "callPlace", "I", false)
  | 96 => ("IndexedCompilerModel", "rows", "I", false)
  | 97 => ("IndexedCompilerModel", "rowsAt", "[J", true)
  | 98 => ("IndexedCompilerModel", "fresh", "I", false)
  | 99 => ("IndexedCompilerModel", "freshAt", "[J", true)
  | 100 => ("IndexedCompilerModel", "tight", "[J", true)
  | 101 => ("IndexedCompilerModel", "isFalse", "Z", false)
  | 102 => ("IndexedCompilerModel", "steps", "I", false)
  | 103 => ("IndexedCompilerModel", "stepNode", "[I", true)
  | 104 => ("IndexedCompilerModel", "stepState", "[I", true)
  | 105 => ("IndexedCompilerModel", "stepHow", "[I", true)
  | 106 => ("IndexedCompilerModel", "stepType", "[I", true)
  | 107 => ("IndexedCompilerModel", "stepTop", "[I", true)
  | 108 => ("IndexedCompilerModel", "stepVariables", "[I", true)
  | 109 => ("IndexedCompilerModel", "stepFacts", "[I", true)
  | 110 => ("IndexedCompilerModel", "stepOther", "[I", true)
  | 111 => ("IndexedCompilerModel", "stepNamed", "[I", true)
  | 112 => ("IndexedCompilerModel", "lookNamed", "I", false)
  | 113 => ("IndexedCompilerModel", "told", "I", false)
  | 114 => ("IndexedCompilerModel", "codeMany", "[I", true)
  | 115 => ("IndexedCompilerModel", "codes", "[I", true)
  | 116 => ("IndexedCompilerModel", "numbers", "[I", true)
  | 117 => ("IndexedCompilerModel", "codeFree", "[Z", true)
  | 118 => ("IndexedCompilerModel", "compiled", "I", false)
  | 119 => ("IndexedCompilerModel", "locals", "I", false)
  | 120 => ("IndexedCompilerModel", "localName", "[I", true)
  | 121 => ("IndexedCompilerModel", "slotIsRow", "[Z", true)
  | 122 => ("IndexedCompilerModel", "slots", "[I", true)
  | 123 => ("IndexedCompilerModel", "slotRows", "[I", true)
  | 124 => ("IndexedCompilerModel", "values", "[I", true)
  | 125 => ("IndexedCompilerModel", "cells", "[I", true)
  | 126 => ("IndexedCompilerModel", "taken", "I", false)
  | 127 => ("IndexedCompilerModel", "pile", "[I", true)
  | 128 => ("IndexedCompilerModel", "piled", "I", false)
  | 129 => ("IndexedCompilerModel", "calls", "I", false)
  | 130 => ("IndexedCompilerModel", "callFunction", "[I", true)
  | 131 => ("IndexedCompilerModel", "callNext", "[I", true)
  | 132 => ("IndexedCompilerModel", "callLocals", "[I", true)
  | 133 => ("IndexedCompilerModel", "prints", "[I", true)
  | 134 => ("IndexedCompilerModel", "printedMany", "I", false)
  | 135 => ("IndexedCompilerModel", "ended", "I", false)
  | 136 => ("IndexedCompilerModel", "answered", "I", false)
  | 137 => ("IndexedCompilerModel", "answerRow", "I", false)
  | 138 => ("IndexedCompilerModel", "made", "I", false)
  | 139 => ("IndexedCompilerModel", "checks", "I", false)
  | 140 => ("IndexedCompilerModel", "reached", "I", false)
  | 141 => ("IndexedCompilerModel", "deepest", "I", false)
  | 142 => ("IndexedCompilerModel", "paramCell", "[I", true)
  | 143 => ("IndexedCompilerModel", "deskFacts", "I", false)
  | _ => ("IndexedCompilerModel", "deskRows", "[J", true)
def tb_F12 : List (FieldType × Bool) := [(.int, false), ((.array .char), true), (.int, false), ((.array .int), true), ((.array .int), true), ((.array .int), true), (.int, false), (.int, false), (.boolean, false), (.int, false), (.int, false), ((.array .int), true), ((.array .int), true), ((.array .int), true), ((.array .int), true), ((.array .int), true), ((.array .int), true), ((.array .int), true), ((.array .int), true), ((.array .int), true), ((.array .int), true), (.int, false), ((.array .int), true), ((.array .int), true), ((.array .int), true), ((.array .int), true), ((.array .int), true), ((.array .int), true), ((.array .int), true), ((.array .boolean), true), (.int, false), ((.array .int), true), ((.array .int), true), ((.array .int), true), (.int, false), ((.array .int), true), ((.array .int), true), ((.array .int), true), (.int, false), ((.array .int), true), ((.array .int), true), ((.array .int), true), (.int, false), ((.array .int), true), ((.array .int), true), ((.array .int), true), ((.array .int), true), ((.array .int), true), (.int, false), ((.array .int), true), (.int, false), (.int, false), ((.array .int), true), ((.array .int), true), ((.array .int), true), ((.array .int), true), ((.array .int), true), ((.array .int), true), ((.array .int), true), ((.array .int), true), ((.array .int), true), (.int, false), (.int, false), (.int, false), (.int, false), (.int, false), (.int, false), (.boolean, false), ((.array .int), true), ((.array .int), true), ((.array .int), true), ((.array .boolean), true), ((.array .int), true), ((.array .int), true), (.int, false), (.int, false), (.int, false), (.int, false), ((.array .long), true), (.int, false), ((.array .int), true), ((.array .int), true), ((.array .long), true), (.int, false), ((.array .long), true), ((.array .boolean), true), ((.array .long), true), ((.array .long), true), ((.array .long), true), ((.array .long), true), (.int, false), (.int, false), (.int, false), (.long, false), (.int, false), (.int, false), (.int, false), ((.array .long), true), (.int, false), ((.array .long), true), ((.array .long), true), (.boolean, false), (.int, false), ((.array .int), true), ((.array .int), true), ((.array .int), true), ((.array .int), true), ((.array .int), true), ((.array .int), true), ((.array .int), true), ((.array .int), true), ((.array .int), true), (.int, false), (.int, false), ((.array .int), true), ((.array .int), true), ((.array .int), true), ((.array .boolean), true), (.int, false), (.int, false), ((.array .int), true), ((.array .boolean), true), ((.array .int), true), ((.array .int), true), ((.array .int), true), ((.array .int), true), (.int, false), ((.array .int), true), (.int, false), (.int, false), ((.array .int), true), ((.array .int), true), ((.array .int), true), ((.array .int), true), (.int, false), (.int, false), (.int, false), (.int, false), (.int, false), (.int, false), (.int, false), (.int, false), ((.array .int), true), (.int, false), ((.array .long), true)]
def tb_TX : u_T := fun _ => ("", "", "", false)
def tb_cl : List vw_C := [("IndexedCompiler", tb_T0, 12), ("IndexedCompiler$Line", tb_T1, 10), ("IndexedCompiler$Reader", tb_T2, 3), ("IndexedCompiler$Solver", tb_T3, 7), ("IndexedCompiler$Expression", tb_T4, 2), ("IndexedCompiler$Ground", tb_T5, 14), ("IndexedCompiler$Checker", tb_T6, 15), ("IndexedCompiler$Coder", tb_T7, 7), ("IndexedCompiler$Slots", tb_T8, 4), ("IndexedCompiler$Machine", tb_T9, 14), ("IndexedCompiler$Tree", tb_T10, 11), ("IndexedCompiler$Shape", tb_T11, 5), ("IndexedCompilerModel", tb_T12, 145), ("java/lang/IllegalStateException", tb_TX, 0), ("java/lang/IllegalArgumentException", tb_TX, 0)]
def tb_names : List String := ["IndexedCompiler", "IndexedCompiler$Line", "IndexedCompiler$Reader", "IndexedCompiler$Solver", "IndexedCompiler$Expression", "IndexedCompiler$Ground", "IndexedCompiler$Checker", "IndexedCompiler$Coder", "IndexedCompiler$Slots", "IndexedCompiler$Machine", "IndexedCompiler$Tree", "IndexedCompiler$Shape", "IndexedCompilerModel", "java/lang/IllegalStateException", "java/lang/IllegalArgumentException", "IndexedCompilerLaw", "java/lang/Math", "java/util/Arrays", "java/lang/String", "java/lang/StringLatin1"]
def tb_cn (o : Nat) : String := (tb_names[o]?).getD ""
def tb_tyl : List FieldType := [.int, .long, .char, .boolean, (.object "IndexedCompiler$Tree"), (.object "IndexedCompiler$Expression"), (.object "IndexedCompiler$Shape"), (.array .int)]
def tb_FF : List (List (FieldType × Bool)) := [tb_F0, tb_F1, tb_F2, tb_F3, tb_F4, tb_F5, tb_F6, tb_F7, tb_F8, tb_F9, tb_F10, tb_F11, tb_F12]
def tb_ft (ci j : Nat) : FieldType × Bool := (((tb_FF[ci]?).getD [])[j]?).getD (.int, false)
def tb_TB : List Cond := lw_tbl.filter mm_gw
theorem tb_in {w : Cond} (h : w ∈ lw_tbl) (hg : mm_gw w = true) : w ∈ tb_TB := List.mem_filter.mpr ⟨h, hg⟩
theorem tb_i1 {w : Cond} (h : w ∈ tables_1_1) (hg : mm_gw w = true) : w ∈ tb_TB := tb_in (List.mem_append_right _ (show w ∈ tables_1 from List.mem_append_left _ h)) hg
theorem tb_i2 {w : Cond} (h : w ∈ tables_1_2) (hg : mm_gw w = true) : w ∈ tb_TB := tb_in (List.mem_append_right _ (show w ∈ tables_1 from List.mem_append_right _ (List.mem_append_left _ h))) hg
theorem tb_i3 {w : Cond} (h : w ∈ tables_1_3) (hg : mm_gw w = true) : w ∈ tb_TB := tb_in (List.mem_append_right _ (show w ∈ tables_1 from List.mem_append_right _ (List.mem_append_right _ (List.mem_append_left _ h)))) hg
theorem tb_i4 {w : Cond} (h : w ∈ tables_1_4) (hg : mm_gw w = true) : w ∈ tb_TB := tb_in (List.mem_append_right _ (show w ∈ tables_1 from List.mem_append_right _ (List.mem_append_right _ (List.mem_append_right _ (List.mem_append_left _ h))))) hg
theorem tb_i5 {w : Cond} (h : w ∈ tables_1_5) (hg : mm_gw w = true) : w ∈ tb_TB := tb_in (List.mem_append_right _ (show w ∈ tables_1 from List.mem_append_right _ (List.mem_append_right _ (List.mem_append_right _ (List.mem_append_right _ (List.mem_append_left _ h)))))) hg
theorem tb_i6 {w : Cond} (h : w ∈ tables_1_6) (hg : mm_gw w = true) : w ∈ tb_TB := tb_in (List.mem_append_right _ (show w ∈ tables_1 from List.mem_append_right _ (List.mem_append_right _ (List.mem_append_right _ (List.mem_append_right _ (List.mem_append_right _ (List.mem_append_left _ h))))))) hg
theorem tb_i7 {w : Cond} (h : w ∈ tables_1_7) (hg : mm_gw w = true) : w ∈ tb_TB := tb_in (List.mem_append_right _ (show w ∈ tables_1 from List.mem_append_right _ (List.mem_append_right _ (List.mem_append_right _ (List.mem_append_right _ (List.mem_append_right _ (List.mem_append_right _ (List.mem_append_left _ h)))))))) hg
theorem tb_i8 {w : Cond} (h : w ∈ tables_1_8) (hg : mm_gw w = true) : w ∈ tb_TB := tb_in (List.mem_append_right _ (show w ∈ tables_1 from List.mem_append_right _ (List.mem_append_right _ (List.mem_append_right _ (List.mem_append_right _ (List.mem_append_right _ (List.mem_append_right _ (List.mem_append_right _ (List.mem_append_left _ h))))))))) hg
theorem tb_i9 {w : Cond} (h : w ∈ tables_1_9) (hg : mm_gw w = true) : w ∈ tb_TB := tb_in (List.mem_append_right _ (show w ∈ tables_1 from List.mem_append_right _ (List.mem_append_right _ (List.mem_append_right _ (List.mem_append_right _ (List.mem_append_right _ (List.mem_append_right _ (List.mem_append_right _ (List.mem_append_right _ (List.mem_append_left _ h)))))))))) hg
theorem tb_i10 {w : Cond} (h : w ∈ tables_1_10) (hg : mm_gw w = true) : w ∈ tb_TB := tb_in (List.mem_append_right _ (show w ∈ tables_1 from List.mem_append_right _ (List.mem_append_right _ (List.mem_append_right _ (List.mem_append_right _ (List.mem_append_right _ (List.mem_append_right _ (List.mem_append_right _ (List.mem_append_right _ (List.mem_append_right _ (List.mem_append_left _ h))))))))))) hg
theorem tb_i11 {w : Cond} (h : w ∈ tables_1_11) (hg : mm_gw w = true) : w ∈ tb_TB := tb_in (List.mem_append_right _ (show w ∈ tables_1 from List.mem_append_right _ (List.mem_append_right _ (List.mem_append_right _ (List.mem_append_right _ (List.mem_append_right _ (List.mem_append_right _ (List.mem_append_right _ (List.mem_append_right _ (List.mem_append_right _ (List.mem_append_right _ (h)))))))))))) hg
theorem tb_p1 {w : Cond} (h : w ∈ k2_sels lw_privs_1) (hg : mm_gw w = true) : w ∈ tb_TB := tb_in (List.mem_append_left _ (by
  obtain ⟨q, h, e⟩ := List.mem_map.mp h
  exact List.mem_map.mpr ⟨q, (show q ∈ lw_privs from List.mem_append_left _ h), e⟩)) hg
theorem tb_p2 {w : Cond} (h : w ∈ k2_sels lw_privs_2) (hg : mm_gw w = true) : w ∈ tb_TB := tb_in (List.mem_append_left _ (by
  obtain ⟨q, h, e⟩ := List.mem_map.mp h
  exact List.mem_map.mpr ⟨q, (show q ∈ lw_privs from List.mem_append_right _ (List.mem_append_left _ h)), e⟩)) hg
theorem tb_p3 {w : Cond} (h : w ∈ k2_sels lw_privs_3) (hg : mm_gw w = true) : w ∈ tb_TB := tb_in (List.mem_append_left _ (by
  obtain ⟨q, h, e⟩ := List.mem_map.mp h
  exact List.mem_map.mpr ⟨q, (show q ∈ lw_privs from List.mem_append_right _ (List.mem_append_right _ (List.mem_append_left _ h))), e⟩)) hg
theorem tb_p4 {w : Cond} (h : w ∈ k2_sels lw_privs_4) (hg : mm_gw w = true) : w ∈ tb_TB := tb_in (List.mem_append_left _ (by
  obtain ⟨q, h, e⟩ := List.mem_map.mp h
  exact List.mem_map.mpr ⟨q, (show q ∈ lw_privs from List.mem_append_right _ (List.mem_append_right _ (List.mem_append_right _ (List.mem_append_left _ h)))), e⟩)) hg
theorem tb_p5 {w : Cond} (h : w ∈ k2_sels lw_privs_5) (hg : mm_gw w = true) : w ∈ tb_TB := tb_in (List.mem_append_left _ (by
  obtain ⟨q, h, e⟩ := List.mem_map.mp h
  exact List.mem_map.mpr ⟨q, (show q ∈ lw_privs from List.mem_append_right _ (List.mem_append_right _ (List.mem_append_right _ (List.mem_append_right _ (List.mem_append_left _ h))))), e⟩)) hg
theorem tb_p6 {w : Cond} (h : w ∈ k2_sels lw_privs_6) (hg : mm_gw w = true) : w ∈ tb_TB := tb_in (List.mem_append_left _ (by
  obtain ⟨q, h, e⟩ := List.mem_map.mp h
  exact List.mem_map.mpr ⟨q, (show q ∈ lw_privs from List.mem_append_right _ (List.mem_append_right _ (List.mem_append_right _ (List.mem_append_right _ (List.mem_append_right _ (List.mem_append_left _ h)))))), e⟩)) hg
theorem tb_p7 {w : Cond} (h : w ∈ k2_sels lw_privs_7) (hg : mm_gw w = true) : w ∈ tb_TB := tb_in (List.mem_append_left _ (by
  obtain ⟨q, h, e⟩ := List.mem_map.mp h
  exact List.mem_map.mpr ⟨q, (show q ∈ lw_privs from List.mem_append_right _ (List.mem_append_right _ (List.mem_append_right _ (List.mem_append_right _ (List.mem_append_right _ (List.mem_append_right _ (List.mem_append_left _ h))))))), e⟩)) hg
theorem tb_p8 {w : Cond} (h : w ∈ k2_sels lw_privs_8) (hg : mm_gw w = true) : w ∈ tb_TB := tb_in (List.mem_append_left _ (by
  obtain ⟨q, h, e⟩ := List.mem_map.mp h
  exact List.mem_map.mpr ⟨q, (show q ∈ lw_privs from List.mem_append_right _ (List.mem_append_right _ (List.mem_append_right _ (List.mem_append_right _ (List.mem_append_right _ (List.mem_append_right _ (List.mem_append_right _ (List.mem_append_left _ h)))))))), e⟩)) hg
theorem tb_p9 {w : Cond} (h : w ∈ k2_sels lw_privs_9) (hg : mm_gw w = true) : w ∈ tb_TB := tb_in (List.mem_append_left _ (by
  obtain ⟨q, h, e⟩ := List.mem_map.mp h
  exact List.mem_map.mpr ⟨q, (show q ∈ lw_privs from List.mem_append_right _ (List.mem_append_right _ (List.mem_append_right _ (List.mem_append_right _ (List.mem_append_right _ (List.mem_append_right _ (List.mem_append_right _ (List.mem_append_right _ (List.mem_append_left _ h))))))))), e⟩)) hg
theorem tb_p10 {w : Cond} (h : w ∈ k2_sels lw_privs_10) (hg : mm_gw w = true) : w ∈ tb_TB := tb_in (List.mem_append_left _ (by
  obtain ⟨q, h, e⟩ := List.mem_map.mp h
  exact List.mem_map.mpr ⟨q, (show q ∈ lw_privs from List.mem_append_right _ (List.mem_append_right _ (List.mem_append_right _ (List.mem_append_right _ (List.mem_append_right _ (List.mem_append_right _ (List.mem_append_right _ (List.mem_append_right _ (List.mem_append_right _ (List.mem_append_left _ h)))))))))), e⟩)) hg
theorem tb_p11 {w : Cond} (h : w ∈ k2_sels lw_privs_11) (hg : mm_gw w = true) : w ∈ tb_TB := tb_in (List.mem_append_left _ (by
  obtain ⟨q, h, e⟩ := List.mem_map.mp h
  exact List.mem_map.mpr ⟨q, (show q ∈ lw_privs from List.mem_append_right _ (List.mem_append_right _ (List.mem_append_right _ (List.mem_append_right _ (List.mem_append_right _ (List.mem_append_right _ (List.mem_append_right _ (List.mem_append_right _ (List.mem_append_right _ (List.mem_append_right _ (List.mem_append_left _ h))))))))))), e⟩)) hg
theorem tb_p12 {w : Cond} (h : w ∈ k2_sels lw_privs_12) (hg : mm_gw w = true) : w ∈ tb_TB := tb_in (List.mem_append_left _ (by
  obtain ⟨q, h, e⟩ := List.mem_map.mp h
  exact List.mem_map.mpr ⟨q, (show q ∈ lw_privs from List.mem_append_right _ (List.mem_append_right _ (List.mem_append_right _ (List.mem_append_right _ (List.mem_append_right _ (List.mem_append_right _ (List.mem_append_right _ (List.mem_append_right _ (List.mem_append_right _ (List.mem_append_right _ (List.mem_append_right _ (List.mem_append_left _ h)))))))))))), e⟩)) hg
theorem tb_p13 {w : Cond} (h : w ∈ k2_sels lw_privs_13) (hg : mm_gw w = true) : w ∈ tb_TB := tb_in (List.mem_append_left _ (by
  obtain ⟨q, h, e⟩ := List.mem_map.mp h
  exact List.mem_map.mpr ⟨q, (show q ∈ lw_privs from List.mem_append_right _ (List.mem_append_right _ (List.mem_append_right _ (List.mem_append_right _ (List.mem_append_right _ (List.mem_append_right _ (List.mem_append_right _ (List.mem_append_right _ (List.mem_append_right _ (List.mem_append_right _ (List.mem_append_right _ (List.mem_append_right _ (List.mem_append_left _ h))))))))))))), e⟩)) hg
theorem tb_p14 {w : Cond} (h : w ∈ k2_sels lw_privs_14) (hg : mm_gw w = true) : w ∈ tb_TB := tb_in (List.mem_append_left _ (by
  obtain ⟨q, h, e⟩ := List.mem_map.mp h
  exact List.mem_map.mpr ⟨q, (show q ∈ lw_privs from List.mem_append_right _ (List.mem_append_right _ (List.mem_append_right _ (List.mem_append_right _ (List.mem_append_right _ (List.mem_append_right _ (List.mem_append_right _ (List.mem_append_right _ (List.mem_append_right _ (List.mem_append_right _ (List.mem_append_right _ (List.mem_append_right _ (List.mem_append_right _ (h)))))))))))))), e⟩)) hg
theorem tb_pd0 : parseFieldDescriptor "I" = some .int := by decide +kernel
theorem tb_pd1 : parseFieldDescriptor "J" = some .long := by decide +kernel
theorem tb_pd2 : parseFieldDescriptor "LIndexedCompiler$Checker;" = some (.object "IndexedCompiler$Checker") := by decide +kernel
theorem tb_pd3 : parseFieldDescriptor "LIndexedCompiler$Coder;" = some (.object "IndexedCompiler$Coder") := by decide +kernel
theorem tb_pd4 : parseFieldDescriptor "LIndexedCompiler$Expression;" = some (.object "IndexedCompiler$Expression") := by decide +kernel
theorem tb_pd5 : parseFieldDescriptor "LIndexedCompiler$Ground;" = some (.object "IndexedCompiler$Ground") := by decide +kernel
theorem tb_pd6 : parseFieldDescriptor "LIndexedCompiler$Line;" = some (.object "IndexedCompiler$Line") := by decide +kernel
theorem tb_pd7 : parseFieldDescriptor "LIndexedCompiler$Machine;" = some (.object "IndexedCompiler$Machine") := by decide +kernel
theorem tb_pd8 : parseFieldDescriptor "LIndexedCompiler$Reader;" = some (.object "IndexedCompiler$Reader") := by decide +kernel
theorem tb_pd9 : parseFieldDescriptor "LIndexedCompiler$Slots;" = some (.object "IndexedCompiler$Slots") := by decide +kernel
theorem tb_pd10 : parseFieldDescriptor "LIndexedCompiler$Solver;" = some (.object "IndexedCompiler$Solver") := by decide +kernel
theorem tb_pd11 : parseFieldDescriptor "LIndexedCompiler$Tree;" = some (.object "IndexedCompiler$Tree") := by decide +kernel
theorem tb_pd12 : parseFieldDescriptor "Z" = some .boolean := by decide +kernel
theorem tb_pd13 : parseFieldDescriptor "[C" = some (.array .char) := by decide +kernel
theorem tb_pd14 : parseFieldDescriptor "[I" = some (.array .int) := by decide +kernel
theorem tb_pd15 : parseFieldDescriptor "[J" = some (.array .long) := by decide +kernel
theorem tb_pd16 : parseFieldDescriptor "[LIndexedCompiler$Expression;" = some (.array (.object "IndexedCompiler$Expression")) := by decide +kernel
theorem tb_pd17 : parseFieldDescriptor "[LIndexedCompiler$Shape;" = some (.array (.object "IndexedCompiler$Shape")) := by decide +kernel
theorem tb_pd18 : parseFieldDescriptor "[LIndexedCompiler$Tree;" = some (.array (.object "IndexedCompiler$Tree")) := by decide +kernel
theorem tb_pd19 : parseFieldDescriptor "[Z" = some (.array .boolean) := by decide +kernel
theorem tb_pd20 : parseFieldDescriptor "[[I" = some (.array (.array .int)) := by decide +kernel
set_option maxRecDepth 20000 in
theorem tb_w0 : mm_allL (fun w => w ∈ tb_TB) (u_ws "IndexedCompiler" tb_T0 12) := ⟨(tb_i2 (List.mem_of_getElem? (i := 138) rfl) rfl),
  (tb_i2 (List.mem_of_getElem? (i := 140) rfl) rfl),
  (tb_i2 (List.mem_of_getElem? (i := 142) rfl) rfl),
  (tb_i2 (List.mem_of_getElem? (i := 144) rfl) rfl),
  (tb_i2 (List.mem_of_getElem? (i := 146) rfl) rfl),
  (tb_i2 (List.mem_of_getElem? (i := 148) rfl) rfl),
  (tb_i2 (List.mem_of_getElem? (i := 150) rfl) rfl),
  (tb_i2 (List.mem_of_getElem? (i := 152) rfl) rfl),
  (tb_i2 (List.mem_of_getElem? (i := 154) rfl) rfl),
  (tb_i2 (List.mem_of_getElem? (i := 156) rfl) rfl),
  (tb_i2 (List.mem_of_getElem? (i := 158) rfl) rfl),
  (tb_i2 (List.mem_of_getElem? (i := 160) rfl) rfl),
  trivial⟩
set_option maxRecDepth 20000 in
theorem tb_f0 : mm_allL (fun j => parseFieldDescriptor (tb_T0 j).2.2.1 = some (tb_ft 0 j).1 ∧ (tb_T0 j).2.2.2 = (tb_ft 0 j).2 ∧ (tb_T0 j).1 = "IndexedCompiler") (List.range 12) := ⟨⟨tb_pd6, rfl, rfl⟩, ⟨tb_pd8, rfl, rfl⟩, ⟨tb_pd18, rfl, rfl⟩, ⟨tb_pd2, rfl, rfl⟩, ⟨tb_pd3, rfl, rfl⟩, ⟨tb_pd9, rfl, rfl⟩, ⟨tb_pd7, rfl, rfl⟩, ⟨tb_pd5, rfl, rfl⟩, ⟨tb_pd4, rfl, rfl⟩, ⟨tb_pd0, rfl, rfl⟩, ⟨tb_pd0, rfl, rfl⟩, ⟨tb_pd12, rfl, rfl⟩, trivial⟩
def tb_N0 : List (List Char) := [['l', 'i', 'n', 'e'], ['r', 'e', 'a', 'd', 'e', 'r'], ['t', 'r', 'e', 'e', 's'], ['c', 'h', 'e', 'c', 'k', 'e', 'r'], ['c', 'o', 'd', 'e', 'r'], ['s', 'l', 'o', 't', 's'], ['m', 'a', 'c', 'h', 'i', 'n', 'e'], ['d', 'e', 's', 'k'], ['a', 's', 'k', 'e', 'd'], ['f', 'u', 'n', 'c', 't', 'i', 'o', 'n', 's'], ['l', 'a', 's', 't', 'P', 'l', 'a', 'c', 'e'], ['c', 'h', 'e', 'c', 'k', 'e', 'd']]
set_option maxRecDepth 20000 in
theorem tb_n0 : tb_N0.Nodup := by decide +kernel
set_option maxRecDepth 20000 in
theorem tb_m0 : mm_allL (fun j => (tb_N0[j]?).map String.ofList = some (tb_T0 j).2.1) (List.range 12) := ⟨rfl, rfl, rfl, rfl, rfl, rfl, rfl, rfl, rfl, rfl, rfl, rfl, trivial⟩
set_option maxRecDepth 20000 in
theorem tb_w1 : mm_allL (fun w => w ∈ tb_TB) (u_ws "IndexedCompiler$Line" tb_T1 10) := ⟨(tb_i1 (List.mem_of_getElem? (i := 55) rfl) rfl),
  (tb_i1 (List.mem_of_getElem? (i := 57) rfl) rfl),
  (tb_i1 (List.mem_of_getElem? (i := 59) rfl) rfl),
  (tb_i1 (List.mem_of_getElem? (i := 61) rfl) rfl),
  (tb_i1 (List.mem_of_getElem? (i := 63) rfl) rfl),
  (tb_i1 (List.mem_of_getElem? (i := 65) rfl) rfl),
  (tb_i1 (List.mem_of_getElem? (i := 67) rfl) rfl),
  (tb_i1 (List.mem_of_getElem? (i := 69) rfl) rfl),
  (tb_i1 (List.mem_of_getElem? (i := 71) rfl) rfl),
  (tb_i1 (List.mem_of_getElem? (i := 73) rfl) rfl),
  trivial⟩
set_option maxRecDepth 20000 in
theorem tb_f1 : mm_allL (fun j => parseFieldDescriptor (tb_T1 j).2.2.1 = some (tb_ft 1 j).1 ∧ (tb_T1 j).2.2.2 = (tb_ft 1 j).2 ∧ (tb_T1 j).1 = "IndexedCompiler$Line") (List.range 10) := ⟨⟨tb_pd13, rfl, rfl⟩, ⟨tb_pd0, rfl, rfl⟩, ⟨tb_pd14, rfl, rfl⟩, ⟨tb_pd14, rfl, rfl⟩, ⟨tb_pd14, rfl, rfl⟩, ⟨tb_pd0, rfl, rfl⟩, ⟨tb_pd0, rfl, rfl⟩, ⟨tb_pd0, rfl, rfl⟩, ⟨tb_pd0, rfl, rfl⟩, ⟨tb_pd0, rfl, rfl⟩, trivial⟩
def tb_N1 : List (List Char) := [['s', 'i', 'g', 'n', 's'], ['l', 'e', 'n', 'g', 't', 'h'], ['k', 'i', 'n', 'd', 's'], ['p', 'l', 'a', 'c', 'e', 's'], ['w', 'o', 'r', 't', 'h', 's'], ['m', 'a', 'n', 'y'], ['n', 'e', 'x', 't'], ['k', 'i', 'n', 'd'], ['a', 't'], ['w', 'o', 'r', 't', 'h']]
set_option maxRecDepth 20000 in
theorem tb_n1 : tb_N1.Nodup := by decide +kernel
set_option maxRecDepth 20000 in
theorem tb_m1 : mm_allL (fun j => (tb_N1[j]?).map String.ofList = some (tb_T1 j).2.1) (List.range 10) := ⟨rfl, rfl, rfl, rfl, rfl, rfl, rfl, rfl, rfl, rfl, trivial⟩
set_option maxRecDepth 20000 in
theorem tb_w2 : mm_allL (fun w => w ∈ tb_TB) (u_ws "IndexedCompiler$Reader" tb_T2 3) := ⟨(tb_i1 (List.mem_of_getElem? (i := 88) rfl) rfl),
  (tb_i1 (List.mem_of_getElem? (i := 90) rfl) rfl),
  (tb_i1 (List.mem_of_getElem? (i := 92) rfl) rfl),
  trivial⟩
set_option maxRecDepth 20000 in
theorem tb_f2 : mm_allL (fun j => parseFieldDescriptor (tb_T2 j).2.2.1 = some (tb_ft 2 j).1 ∧ (tb_T2 j).2.2.2 = (tb_ft 2 j).2 ∧ (tb_T2 j).1 = "IndexedCompiler$Reader") (List.range 3) := ⟨⟨tb_pd6, rfl, rfl⟩, ⟨tb_pd11, rfl, rfl⟩, ⟨tb_pd0, rfl, rfl⟩, trivial⟩
def tb_N2 : List (List Char) := [['l', 'i', 'n', 'e'], ['t', 'r', 'e', 'e'], ['w', 'r', 'o', 'n', 'g', 'A', 't']]
set_option maxRecDepth 20000 in
theorem tb_n2 : tb_N2.Nodup := by decide +kernel
set_option maxRecDepth 20000 in
theorem tb_m2 : mm_allL (fun j => (tb_N2[j]?).map String.ofList = some (tb_T2 j).2.1) (List.range 3) := ⟨rfl, rfl, rfl, trivial⟩
set_option maxRecDepth 20000 in
theorem tb_w3 : mm_allL (fun w => w ∈ tb_TB) (u_ws "IndexedCompiler$Solver" tb_T3 7) := ⟨(tb_i1 (List.mem_of_getElem? (i := 122) rfl) rfl),
  (tb_i1 (List.mem_of_getElem? (i := 124) rfl) rfl),
  (tb_i1 (List.mem_of_getElem? (i := 126) rfl) rfl),
  (tb_i1 (List.mem_of_getElem? (i := 128) rfl) rfl),
  (tb_i1 (List.mem_of_getElem? (i := 130) rfl) rfl),
  (tb_i1 (List.mem_of_getElem? (i := 132) rfl) rfl),
  (tb_i1 (List.mem_of_getElem? (i := 134) rfl) rfl),
  trivial⟩
set_option maxRecDepth 20000 in
theorem tb_f3 : mm_allL (fun j => parseFieldDescriptor (tb_T3 j).2.2.1 = some (tb_ft 3 j).1 ∧ (tb_T3 j).2.2.2 = (tb_ft 3 j).2 ∧ (tb_T3 j).1 = "IndexedCompiler$Solver") (List.range 7) := ⟨⟨tb_pd15, rfl, rfl⟩, ⟨tb_pd15, rfl, rfl⟩, ⟨tb_pd15, rfl, rfl⟩, ⟨tb_pd0, rfl, rfl⟩, ⟨tb_pd0, rfl, rfl⟩, ⟨tb_pd12, rfl, rfl⟩, ⟨tb_pd12, rfl, rfl⟩, trivial⟩
def tb_N3 : List (List Char) := [['r', 'o', 'w', 's'], ['o', 't', 'h', 'e', 'r', 's'], ['w', 'o', 'r', 'k'], ['k', 'e', 'p', 't'], ['w', 'i', 'd', 't', 'h'], ['t', 'o', 'o', 'M', 'u', 'c', 'h'], ['i', 's', 'F', 'a', 'l', 's', 'e']]
set_option maxRecDepth 20000 in
theorem tb_n3 : tb_N3.Nodup := by decide +kernel
set_option maxRecDepth 20000 in
theorem tb_m3 : mm_allL (fun j => (tb_N3[j]?).map String.ofList = some (tb_T3 j).2.1) (List.range 7) := ⟨rfl, rfl, rfl, rfl, rfl, rfl, rfl, trivial⟩
set_option maxRecDepth 20000 in
theorem tb_w4 : mm_allL (fun w => w ∈ tb_TB) (u_ws "IndexedCompiler$Expression" tb_T4 2) := ⟨(tb_i1 (List.mem_of_getElem? (i := 154) rfl) rfl),
  (tb_i1 (List.mem_of_getElem? (i := 156) rfl) rfl),
  trivial⟩
set_option maxRecDepth 20000 in
theorem tb_f4 : mm_allL (fun j => parseFieldDescriptor (tb_T4 j).2.2.1 = some (tb_ft 4 j).1 ∧ (tb_T4 j).2.2.2 = (tb_ft 4 j).2 ∧ (tb_T4 j).1 = "IndexedCompiler$Expression") (List.range 2) := ⟨⟨tb_pd15, rfl, rfl⟩, ⟨tb_pd12, rfl, rfl⟩, trivial⟩
def tb_N4 : List (List Char) := [['n', 'u', 'm', 'b', 'e', 'r', 's'], ['r', 'o', 'w']]
set_option maxRecDepth 20000 in
theorem tb_n4 : tb_N4.Nodup := by decide +kernel
set_option maxRecDepth 20000 in
theorem tb_m4 : mm_allL (fun j => (tb_N4[j]?).map String.ofList = some (tb_T4 j).2.1) (List.range 2) := ⟨rfl, rfl, trivial⟩
set_option maxRecDepth 20000 in
theorem tb_w5 : mm_allL (fun w => w ∈ tb_TB) (u_ws "IndexedCompiler$Ground" tb_T5 14) := ⟨(tb_i1 (List.mem_of_getElem? (i := 182) rfl) rfl),
  (tb_i1 (List.mem_of_getElem? (i := 184) rfl) rfl),
  (tb_i1 (List.mem_of_getElem? (i := 186) rfl) rfl),
  (tb_i1 (List.mem_of_getElem? (i := 188) rfl) rfl),
  (tb_i1 (List.mem_of_getElem? (i := 190) rfl) rfl),
  (tb_i1 (List.mem_of_getElem? (i := 192) rfl) rfl),
  (tb_i1 (List.mem_of_getElem? (i := 194) rfl) rfl),
  (tb_i1 (List.mem_of_getElem? (i := 196) rfl) rfl),
  (tb_i1 (List.mem_of_getElem? (i := 198) rfl) rfl),
  (tb_i1 (List.mem_of_getElem? (i := 200) rfl) rfl),
  (tb_i1 (List.mem_of_getElem? (i := 202) rfl) rfl),
  (tb_i1 (List.mem_of_getElem? (i := 204) rfl) rfl),
  (tb_i1 (List.mem_of_getElem? (i := 206) rfl) rfl),
  (tb_i1 (List.mem_of_getElem? (i := 208) rfl) rfl),
  trivial⟩
set_option maxRecDepth 20000 in
theorem tb_f5 : mm_allL (fun j => parseFieldDescriptor (tb_T5 j).2.2.1 = some (tb_ft 5 j).1 ∧ (tb_T5 j).2.2.2 = (tb_ft 5 j).2 ∧ (tb_T5 j).1 = "IndexedCompiler$Ground") (List.range 14) := ⟨⟨tb_pd10, rfl, rfl⟩, ⟨tb_pd15, rfl, rfl⟩, ⟨tb_pd0, rfl, rfl⟩, ⟨tb_pd14, rfl, rfl⟩, ⟨tb_pd0, rfl, rfl⟩, ⟨tb_pd16, rfl, rfl⟩, ⟨tb_pd0, rfl, rfl⟩, ⟨tb_pd0, rfl, rfl⟩, ⟨tb_pd0, rfl, rfl⟩, ⟨tb_pd0, rfl, rfl⟩, ⟨tb_pd0, rfl, rfl⟩, ⟨tb_pd12, rfl, rfl⟩, ⟨tb_pd0, rfl, rfl⟩, ⟨tb_pd0, rfl, rfl⟩, trivial⟩
def tb_N5 : List (List Char) := [['s', 'o', 'l', 'v', 'e', 'r'], ['f', 'a', 'c', 't', 'R', 'o', 'w', 's'], ['m', 'o', 's', 't', 'F', 'a', 'c', 't', 's'], ['g', 'o', 'a', 'l', 'R', 'o', 'w', 's'], ['m', 'o', 's', 't', 'G', 'o', 'a', 'l', 's'], ['p', 'e', 'n', 'd', 'i', 'n', 'g'], ['p', 'e', 'n', 'd', 'i', 'n', 'g', 's'], ['f', 'a', 'c', 't', 's'], ['v', 'a', 'r', 'i', 'a', 'b', 'l', 'e', 's'], ['g', 'o', 'a', 'l', 's'], ['p', 'r', 'o', 'v', 'e', 'd'], ['a', 'l', 'l', 'N', 'e', 'e', 'd', 'e', 'd', 'P', 'r', 'o', 'v', 'e', 'd'], ['f', 'a', 'u', 'l', 't'], ['f', 'a', 'u', 'l', 't', 'P', 'l', 'a', 'c', 'e']]
set_option maxRecDepth 20000 in
theorem tb_n5 : tb_N5.Nodup := by decide +kernel
set_option maxRecDepth 20000 in
theorem tb_m5 : mm_allL (fun j => (tb_N5[j]?).map String.ofList = some (tb_T5 j).2.1) (List.range 14) := ⟨rfl, rfl, rfl, rfl, rfl, rfl, rfl, rfl, rfl, rfl, rfl, rfl, rfl, rfl, trivial⟩
set_option maxRecDepth 20000 in
theorem tb_w6 : mm_allL (fun w => w ∈ tb_TB) (u_ws "IndexedCompiler$Checker" tb_T6 15) := ⟨(tb_i1 (List.mem_of_getElem? (i := 230) rfl) rfl),
  (tb_i1 (List.mem_of_getElem? (i := 232) rfl) rfl),
  (tb_i1 (List.mem_of_getElem? (i := 234) rfl) rfl),
  (tb_i1 (List.mem_of_getElem? (i := 236) rfl) rfl),
  (tb_i1 (List.mem_of_getElem? (i := 238) rfl) rfl),
  (tb_i2 (List.mem_of_getElem? (i := 0) rfl) rfl),
  (tb_i2 (List.mem_of_getElem? (i := 2) rfl) rfl),
  (tb_i2 (List.mem_of_getElem? (i := 4) rfl) rfl),
  (tb_i2 (List.mem_of_getElem? (i := 6) rfl) rfl),
  (tb_i2 (List.mem_of_getElem? (i := 8) rfl) rfl),
  (tb_i2 (List.mem_of_getElem? (i := 10) rfl) rfl),
  (tb_i2 (List.mem_of_getElem? (i := 12) rfl) rfl),
  (tb_i2 (List.mem_of_getElem? (i := 14) rfl) rfl),
  (tb_i2 (List.mem_of_getElem? (i := 16) rfl) rfl),
  (tb_i2 (List.mem_of_getElem? (i := 18) rfl) rfl),
  trivial⟩
set_option maxRecDepth 20000 in
theorem tb_f6 : mm_allL (fun j => parseFieldDescriptor (tb_T6 j).2.2.1 = some (tb_ft 6 j).1 ∧ (tb_T6 j).2.2.2 = (tb_ft 6 j).2 ∧ (tb_T6 j).1 = "IndexedCompiler$Checker") (List.range 15) := ⟨⟨tb_pd5, rfl, rfl⟩, ⟨tb_pd18, rfl, rfl⟩, ⟨tb_pd11, rfl, rfl⟩, ⟨tb_pd0, rfl, rfl⟩, ⟨tb_pd0, rfl, rfl⟩, ⟨tb_pd16, rfl, rfl⟩, ⟨tb_pd0, rfl, rfl⟩, ⟨tb_pd17, rfl, rfl⟩, ⟨tb_pd0, rfl, rfl⟩, ⟨tb_pd14, rfl, rfl⟩, ⟨tb_pd16, rfl, rfl⟩, ⟨tb_pd0, rfl, rfl⟩, ⟨tb_pd0, rfl, rfl⟩, ⟨tb_pd0, rfl, rfl⟩, ⟨tb_pd12, rfl, rfl⟩, trivial⟩
def tb_N6 : List (List Char) := [['g', 'r', 'o', 'u', 'n', 'd'], ['t', 'r', 'e', 'e', 's'], ['t', 'r', 'e', 'e'], ['f', 'u', 'n', 'c', 't', 'i', 'o', 'n', 's'], ['f', 'u', 'n', 'c', 't', 'i', 'o', 'n'], ['p', 'o', 'o', 'l'], ['t', 'a', 'k', 'e', 'n'], ['s', 'h', 'a', 'p', 'e', 's'], ['s', 'h', 'a', 'p', 'e', 's', 'T', 'a', 'k', 'e', 'n'], ['w', 'o', 'r', 'd', 's'], ['m', 'e', 'a', 'n', 'i', 'n', 'g', 's'], ['n', 'a', 'm', 'e', 's'], ['a', 'c', 'c', 'e', 's', 's', 'e', 's'], ['f', 'r', 'e', 'e'], ['a', 'c', 'c', 'e', 'p', 't', 'e', 'd']]
set_option maxRecDepth 20000 in
theorem tb_n6 : tb_N6.Nodup := by decide +kernel
set_option maxRecDepth 20000 in
theorem tb_m6 : mm_allL (fun j => (tb_N6[j]?).map String.ofList = some (tb_T6 j).2.1) (List.range 15) := ⟨rfl, rfl, rfl, rfl, rfl, rfl, rfl, rfl, rfl, rfl, rfl, rfl, rfl, rfl, rfl, trivial⟩
set_option maxRecDepth 20000 in
theorem tb_w7 : mm_allL (fun w => w ∈ tb_TB) (u_ws "IndexedCompiler$Coder" tb_T7 7) := ⟨(tb_i2 (List.mem_of_getElem? (i := 38) rfl) rfl),
  (tb_i2 (List.mem_of_getElem? (i := 40) rfl) rfl),
  (tb_i2 (List.mem_of_getElem? (i := 42) rfl) rfl),
  (tb_i2 (List.mem_of_getElem? (i := 44) rfl) rfl),
  (tb_i2 (List.mem_of_getElem? (i := 46) rfl) rfl),
  (tb_i2 (List.mem_of_getElem? (i := 48) rfl) rfl),
  (tb_i2 (List.mem_of_getElem? (i := 50) rfl) rfl),
  trivial⟩
set_option maxRecDepth 20000 in
theorem tb_f7 : mm_allL (fun j => parseFieldDescriptor (tb_T7 j).2.2.1 = some (tb_ft 7 j).1 ∧ (tb_T7 j).2.2.2 = (tb_ft 7 j).2 ∧ (tb_T7 j).1 = "IndexedCompiler$Coder") (List.range 7) := ⟨⟨tb_pd20, rfl, rfl⟩, ⟨tb_pd14, rfl, rfl⟩, ⟨tb_pd14, rfl, rfl⟩, ⟨tb_pd19, rfl, rfl⟩, ⟨tb_pd11, rfl, rfl⟩, ⟨tb_pd14, rfl, rfl⟩, ⟨tb_pd0, rfl, rfl⟩, trivial⟩
def tb_N7 : List (List Char) := [['c', 'o', 'd', 'e', 's'], ['l', 'e', 'n', 'g', 't', 'h', 's'], ['p', 'a', 'r', 'a', 'm', 'e', 't', 'e', 'r', 's'], ['a', 'n', 's', 'w', 'e', 'r', 's', 'R', 'o', 'w'], ['t', 'r', 'e', 'e'], ['c', 'o', 'd', 'e'], ['l', 'e', 'n', 'g', 't', 'h']]
set_option maxRecDepth 20000 in
theorem tb_n7 : tb_N7.Nodup := by decide +kernel
set_option maxRecDepth 20000 in
theorem tb_m7 : mm_allL (fun j => (tb_N7[j]?).map String.ofList = some (tb_T7 j).2.1) (List.range 7) := ⟨rfl, rfl, rfl, rfl, rfl, rfl, rfl, trivial⟩
set_option maxRecDepth 20000 in
theorem tb_w8 : mm_allL (fun w => w ∈ tb_TB) (u_ws "IndexedCompiler$Slots" tb_T8 4) := ⟨(tb_i2 (List.mem_of_getElem? (i := 64) rfl) rfl),
  (tb_i2 (List.mem_of_getElem? (i := 66) rfl) rfl),
  (tb_i2 (List.mem_of_getElem? (i := 68) rfl) rfl),
  (tb_i2 (List.mem_of_getElem? (i := 70) rfl) rfl),
  trivial⟩
set_option maxRecDepth 20000 in
theorem tb_f8 : mm_allL (fun j => parseFieldDescriptor (tb_T8 j).2.2.1 = some (tb_ft 8 j).1 ∧ (tb_T8 j).2.2.2 = (tb_ft 8 j).2 ∧ (tb_T8 j).1 = "IndexedCompiler$Slots") (List.range 4) := ⟨⟨tb_pd19, rfl, rfl⟩, ⟨tb_pd14, rfl, rfl⟩, ⟨tb_pd14, rfl, rfl⟩, ⟨tb_pd14, rfl, rfl⟩, trivial⟩
def tb_N8 : List (List Char) := [['i', 's', 'R', 'o', 'w'], ['s', 'i', 'z', 'e', 's'], ['c', 'e', 'l', 'l', 's'], ['v', 'a', 'l', 'u', 'e', 's']]
set_option maxRecDepth 20000 in
theorem tb_n8 : tb_N8.Nodup := by decide +kernel
set_option maxRecDepth 20000 in
theorem tb_m8 : mm_allL (fun j => (tb_N8[j]?).map String.ofList = some (tb_T8 j).2.1) (List.range 4) := ⟨rfl, rfl, rfl, rfl, trivial⟩
set_option maxRecDepth 20000 in
theorem tb_w9 : mm_allL (fun w => w ∈ tb_TB) (u_ws "IndexedCompiler$Machine" tb_T9 14) := ⟨(tb_i2 (List.mem_of_getElem? (i := 93) rfl) rfl),
  (tb_i2 (List.mem_of_getElem? (i := 95) rfl) rfl),
  (tb_i2 (List.mem_of_getElem? (i := 97) rfl) rfl),
  (tb_i2 (List.mem_of_getElem? (i := 99) rfl) rfl),
  (tb_i2 (List.mem_of_getElem? (i := 101) rfl) rfl),
  (tb_i2 (List.mem_of_getElem? (i := 103) rfl) rfl),
  (tb_i2 (List.mem_of_getElem? (i := 105) rfl) rfl),
  (tb_i2 (List.mem_of_getElem? (i := 107) rfl) rfl),
  (tb_i2 (List.mem_of_getElem? (i := 109) rfl) rfl),
  (tb_i2 (List.mem_of_getElem? (i := 111) rfl) rfl),
  (tb_i2 (List.mem_of_getElem? (i := 113) rfl) rfl),
  (tb_i2 (List.mem_of_getElem? (i := 115) rfl) rfl),
  (tb_i2 (List.mem_of_getElem? (i := 117) rfl) rfl),
  (tb_i2 (List.mem_of_getElem? (i := 119) rfl) rfl),
  trivial⟩
set_option maxRecDepth 20000 in
theorem tb_f9 : mm_allL (fun j => parseFieldDescriptor (tb_T9 j).2.2.1 = some (tb_ft 9 j).1 ∧ (tb_T9 j).2.2.2 = (tb_ft 9 j).2 ∧ (tb_T9 j).1 = "IndexedCompiler$Machine") (List.range 14) := ⟨⟨tb_pd14, rfl, rfl⟩, ⟨tb_pd14, rfl, rfl⟩, ⟨tb_pd14, rfl, rfl⟩, ⟨tb_pd14, rfl, rfl⟩, ⟨tb_pd14, rfl, rfl⟩, ⟨tb_pd14, rfl, rfl⟩, ⟨tb_pd14, rfl, rfl⟩, ⟨tb_pd0, rfl, rfl⟩, ⟨tb_pd0, rfl, rfl⟩, ⟨tb_pd0, rfl, rfl⟩, ⟨tb_pd0, rfl, rfl⟩, ⟨tb_pd0, rfl, rfl⟩, ⟨tb_pd0, rfl, rfl⟩, ⟨tb_pd3, rfl, rfl⟩, trivial⟩
def tb_N9 : List (List Char) := [['c', 'e', 'l', 'l', 's'], ['s', 't', 'a', 'c', 'k'], ['l', 'o', 'c', 'a', 'l', 's'], ['b', 'a', 'c', 'k', 'T', 'o'], ['b', 'a', 'c', 'k', 'I', 'n'], ['p', 'r', 'i', 'n', 't', 's'], ['r', 'e', 'p', 'o', 'r', 't', 's'], ['h', 'e', 'i', 'g', 'h', 't'], ['d', 'e', 'p', 't', 'h'], ['f', 'u', 'n', 'c', 't', 'i', 'o', 'n'], ['n', 'e', 'x', 't'], ['h', 'o', 'w'], ['a', 'n', 's', 'w', 'e', 'r', 'R', 'o', 'w'], ['c', 'o', 'd', 'e', 'r']]
set_option maxRecDepth 20000 in
theorem tb_n9 : tb_N9.Nodup := by decide +kernel
set_option maxRecDepth 20000 in
theorem tb_m9 : mm_allL (fun j => (tb_N9[j]?).map String.ofList = some (tb_T9 j).2.1) (List.range 14) := ⟨rfl, rfl, rfl, rfl, rfl, rfl, rfl, rfl, rfl, rfl, rfl, rfl, rfl, rfl, trivial⟩
set_option maxRecDepth 20000 in
theorem tb_w10 : mm_allL (fun w => w ∈ tb_TB) (u_ws "IndexedCompiler$Tree" tb_T10 11) := ⟨(tb_i2 (List.mem_of_getElem? (i := 221) rfl) rfl),
  (tb_i2 (List.mem_of_getElem? (i := 223) rfl) rfl),
  (tb_i2 (List.mem_of_getElem? (i := 225) rfl) rfl),
  (tb_i2 (List.mem_of_getElem? (i := 227) rfl) rfl),
  (tb_i2 (List.mem_of_getElem? (i := 229) rfl) rfl),
  (tb_i2 (List.mem_of_getElem? (i := 231) rfl) rfl),
  (tb_i2 (List.mem_of_getElem? (i := 233) rfl) rfl),
  (tb_i2 (List.mem_of_getElem? (i := 235) rfl) rfl),
  (tb_i2 (List.mem_of_getElem? (i := 237) rfl) rfl),
  (tb_i2 (List.mem_of_getElem? (i := 239) rfl) rfl),
  (tb_i3 (List.mem_of_getElem? (i := 1) rfl) rfl),
  trivial⟩
set_option maxRecDepth 20000 in
theorem tb_f10 : mm_allL (fun j => parseFieldDescriptor (tb_T10 j).2.2.1 = some (tb_ft 10 j).1 ∧ (tb_T10 j).2.2.2 = (tb_ft 10 j).2 ∧ (tb_T10 j).1 = "IndexedCompiler$Tree") (List.range 11) := ⟨⟨tb_pd14, rfl, rfl⟩, ⟨tb_pd0, rfl, rfl⟩, ⟨tb_pd0, rfl, rfl⟩, ⟨tb_pd0, rfl, rfl⟩, ⟨tb_pd0, rfl, rfl⟩, ⟨tb_pd0, rfl, rfl⟩, ⟨tb_pd0, rfl, rfl⟩, ⟨tb_pd0, rfl, rfl⟩, ⟨tb_pd0, rfl, rfl⟩, ⟨tb_pd0, rfl, rfl⟩, ⟨tb_pd0, rfl, rfl⟩, trivial⟩
def tb_N10 : List (List Char) := [['n', 'o', 'd', 'e', 's'], ['s', 'i', 'z', 'e'], ['n', 'a', 'm', 'e', 'd'], ['n', 'a', 'm', 'e', 'd', 'A', 't'], ['i', 'n', 'd', 'e', 'x', 'N', 'a', 'm', 'e', 's'], ['i', 'n', 'd', 'e', 'x', 'C', 'o', 'u', 'n', 't'], ['p', 'r', 'o', 'p', 's'], ['p', 'a', 'r', 'a', 'm', 'e', 't', 'e', 'r', 's'], ['p', 'a', 'r', 'a', 'm', 'e', 't', 'e', 'r', 'C', 'o', 'u', 'n', 't'], ['r', 'e', 's', 'u', 'l', 't'], ['s', 't', 'e', 'p', 's']]
set_option maxRecDepth 20000 in
theorem tb_n10 : tb_N10.Nodup := by decide +kernel
set_option maxRecDepth 20000 in
theorem tb_m10 : mm_allL (fun j => (tb_N10[j]?).map String.ofList = some (tb_T10 j).2.1) (List.range 11) := ⟨rfl, rfl, rfl, rfl, rfl, rfl, rfl, rfl, rfl, rfl, rfl, trivial⟩
set_option maxRecDepth 20000 in
theorem tb_w11 : mm_allL (fun w => w ∈ tb_TB) (u_ws "IndexedCompiler$Shape" tb_T11 5) := ⟨(tb_i4 (List.mem_of_getElem? (i := 175) rfl) rfl),
  (tb_i4 (List.mem_of_getElem? (i := 177) rfl) rfl),
  (tb_i4 (List.mem_of_getElem? (i := 179) rfl) rfl),
  (tb_i4 (List.mem_of_getElem? (i := 181) rfl) rfl),
  (tb_i4 (List.mem_of_getElem? (i := 183) rfl) rfl),
  trivial⟩
set_option maxRecDepth 20000 in
theorem tb_f11 : mm_allL (fun j => parseFieldDescriptor (tb_T11 j).2.2.1 = some (tb_ft 11 j).1 ∧ (tb_T11 j).2.2.2 = (tb_ft 11 j).2 ∧ (tb_T11 j).1 = "IndexedCompiler$Shape") (List.range 5) := ⟨⟨tb_pd0, rfl, rfl⟩, ⟨tb_pd4, rfl, rfl⟩, ⟨tb_pd0, rfl, rfl⟩, ⟨tb_pd14, rfl, rfl⟩, ⟨tb_pd16, rfl, rfl⟩, trivial⟩
def tb_N11 : List (List Char) := [['s', 'o', 'r', 't'], ['i', 'n', 'd', 'e', 'x'], ['p', 'r', 'o', 'p', 's'], ['r', 'e', 'l', 'a', 't', 'i', 'o', 'n', 's'], ['g', 'a', 'p', 's']]
set_option maxRecDepth 20000 in
theorem tb_n11 : tb_N11.Nodup := by decide +kernel
set_option maxRecDepth 20000 in
theorem tb_m11 : mm_allL (fun j => (tb_N11[j]?).map String.ofList = some (tb_T11 j).2.1) (List.range 5) := ⟨rfl, rfl, rfl, rfl, rfl, trivial⟩
set_option maxRecDepth 20000 in
theorem tb_w12 : mm_allL (fun w => w ∈ tb_TB) (u_ws "IndexedCompilerModel" tb_T12 145) := ⟨(tb_i8 (List.mem_of_getElem? (i := 42) rfl) rfl),
  (tb_i8 (List.mem_of_getElem? (i := 44) rfl) rfl),
  (tb_i8 (List.mem_of_getElem? (i := 46) rfl) rfl),
  (tb_i8 (List.mem_of_getElem? (i := 48) rfl) rfl),
  (tb_i8 (List.mem_of_getElem? (i := 50) rfl) rfl),
  (tb_i8 (List.mem_of_getElem? (i := 52) rfl) rfl),
  (tb_i8 (List.mem_of_getElem? (i := 54) rfl) rfl),
  (tb_i8 (List.mem_of_getElem? (i := 56) rfl) rfl),
  (tb_i8 (List.mem_of_getElem? (i := 58) rfl) rfl),
  (tb_i8 (List.mem_of_getElem? (i := 60) rfl) rfl),
  (tb_i8 (List.mem_of_getElem? (i := 62) rfl) rfl),
  (tb_i8 (List.mem_of_getElem? (i := 64) rfl) rfl),
  (tb_i8 (List.mem_of_getElem? (i := 66) rfl) rfl),
  (tb_i8 (List.mem_of_getElem? (i := 68) rfl) rfl),
  (tb_i8 (List.mem_of_getElem? (i := 70) rfl) rfl),
  (tb_i8 (List.mem_of_getElem? (i := 72) rfl) rfl),
  (tb_i8 (List.mem_of_getElem? (i := 74) rfl) rfl),
  (tb_i8 (List.mem_of_getElem? (i := 76) rfl) rfl),
  (tb_i8 (List.mem_of_getElem? (i := 78) rfl) rfl),
  (tb_i8 (List.mem_of_getElem? (i := 80) rfl) rfl),
  (tb_i8 (List.mem_of_getElem? (i := 82) rfl) rfl),
  (tb_i8 (List.mem_of_getElem? (i := 84) rfl) rfl),
  (tb_i8 (List.mem_of_getElem? (i := 86) rfl) rfl),
  (tb_i8 (List.mem_of_getElem? (i := 88) rfl) rfl),
  (tb_i8 (List.mem_of_getElem? (i := 90) rfl) rfl),
  (tb_i8 (List.mem_of_getElem? (i := 92) rfl) rfl),
  (tb_i8 (List.mem_of_getElem? (i := 94) rfl) rfl),
  (tb_i8 (List.mem_of_getElem? (i := 96) rfl) rfl),
  (tb_i8 (List.mem_of_getElem? (i := 98) rfl) rfl),
  (tb_i8 (List.mem_of_getElem? (i := 100) rfl) rfl),
  (tb_i8 (List.mem_of_getElem? (i := 102) rfl) rfl),
  (tb_i8 (List.mem_of_getElem? (i := 104) rfl) rfl),
  (tb_i8 (List.mem_of_getElem? (i := 106) rfl) rfl),
  (tb_i8 (List.mem_of_getElem? (i := 108) rfl) rfl),
  (tb_i8 (List.mem_of_getElem? (i := 110) rfl) rfl),
  (tb_i8 (List.mem_of_getElem? (i := 112) rfl) rfl),
  (tb_i8 (List.mem_of_getElem? (i := 114) rfl) rfl),
  (tb_i8 (List.mem_of_getElem? (i := 116) rfl) rfl),
  (tb_i8 (List.mem_of_getElem? (i := 118) rfl) rfl),
  (tb_i8 (List.mem_of_getElem? (i := 120) rfl) rfl),
  (tb_i8 (List.mem_of_getElem? (i := 122) rfl) rfl),
  (tb_i8 (List.mem_of_getElem? (i := 124) rfl) rfl),
  (tb_i8 (List.mem_of_getElem? (i := 126) rfl) rfl),
  (tb_i8 (List.mem_of_getElem? (i := 128) rfl) rfl),
  (tb_i8 (List.mem_of_getElem? (i := 130) rfl) rfl),
  (tb_i8 (List.mem_of_getElem? (i := 132) rfl) rfl),
  (tb_i8 (List.mem_of_getElem? (i := 134) rfl) rfl),
  (tb_i8 (List.mem_of_getElem? (i := 136) rfl) rfl),
  (tb_i8 (List.mem_of_getElem? (i := 138) rfl) rfl),
  (tb_i8 (List.mem_of_getElem? (i := 140) rfl) rfl),
  (tb_i8 (List.mem_of_getElem? (i := 142) rfl) rfl),
  (tb_i8 (List.mem_of_getElem? (i := 144) rfl) rfl),
  (tb_i8 (List.mem_of_getElem? (i := 146) rfl) rfl),
  (tb_i8 (List.mem_of_getElem? (i := 148) rfl) rfl),
  (tb_i8 (List.mem_of_getElem? (i := 150) rfl) rfl),
  (tb_i8 (List.mem_of_getElem? (i := 152) rfl) rfl),
  (tb_i8 (List.mem_of_getElem? (i := 154) rfl) rfl),
  (tb_i8 (List.mem_of_getElem? (i := 156) rfl) rfl),
  (tb_i8 (List.mem_of_getElem? (i := 158) rfl) rfl),
  (tb_i8 (List.mem_of_getElem? (i := 160) rfl) rfl),
  (tb_i8 (List.mem_of_getElem? (i := 162) rfl) rfl),
  (tb_i8 (List.mem_of_getElem? (i := 164) rfl) rfl),
  (tb_i8 (List.mem_of_getElem? (i := 166) rfl) rfl),
  (tb_i8 (List.mem_of_getElem? (i := 168) rfl) rfl),
  (tb_i8 (List.mem_of_getElem? (i := 170) rfl) rfl),
  (tb_i8 (List.mem_of_getElem? (i := 172) rfl) rfl),
  (tb_i8 (List.mem_of_getElem? (i := 174) rfl) rfl),
  (tb_i8 (List.mem_of_getElem? (i := 176) rfl) rfl),
  (tb_i8 (List.mem_of_getElem? (i := 178) rfl) rfl),
  (tb_i8 (List.mem_of_getElem? (i := 180) rfl) rfl),
  (tb_i8 (List.mem_of_getElem? (i := 182) rfl) rfl),
  (tb_i8 (List.mem_of_getElem? (i := 184) rfl) rfl),
  (tb_i8 (List.mem_of_getElem? (i := 186) rfl) rfl),
  (tb_i8 (List.mem_of_getElem? (i := 188) rfl) rfl),
  (tb_i8 (List.mem_of_getElem? (i := 190) rfl) rfl),
  (tb_i8 (List.mem_of_getElem? (i := 192) rfl) rfl),
  (tb_i8 (List.mem_of_getElem? (i := 194) rfl) rfl),
  (tb_i8 (List.mem_of_getElem? (i := 196) rfl) rfl),
  (tb_i8 (List.mem_of_getElem? (i := 198) rfl) rfl),
  (tb_i8 (List.mem_of_getElem? (i := 200) rfl) rfl),
  (tb_i8 (List.mem_of_getElem? (i := 202) rfl) rfl),
  (tb_i8 (List.mem_of_getElem? (i := 204) rfl) rfl),
  (tb_i8 (List.mem_of_getElem? (i := 206) rfl) rfl),
  (tb_i8 (List.mem_of_getElem? (i := 208) rfl) rfl),
  (tb_i8 (List.mem_of_getElem? (i := 210) rfl) rfl),
  (tb_i8 (List.mem_of_getElem? (i := 212) rfl) rfl),
  (tb_i8 (List.mem_of_getElem? (i := 214) rfl) rfl),
  (tb_i8 (List.mem_of_getElem? (i := 216) rfl) rfl),
  (tb_i8 (List.mem_of_getElem? (i := 218) rfl) rfl),
  (tb_i8 (List.mem_of_getElem? (i := 220) rfl) rfl),
  (tb_i8 (List.mem_of_getElem? (i := 222) rfl) rfl),
  (tb_i8 (List.mem_of_getElem? (i := 224) rfl) rfl),
  (tb_i8 (List.mem_of_getElem? (i := 226) rfl) rfl),
  (tb_i8 (List.mem_of_getElem? (i := 228) rfl) rfl),
  (tb_i8 (List.mem_of_getElem? (i := 230) rfl) rfl),
  (tb_i8 (List.mem_of_getElem? (i := 232) rfl) rfl),
  (tb_i8 (List.mem_of_getElem? (i := 234) rfl) rfl),
  (tb_i8 (List.mem_of_getElem? (i := 236) rfl) rfl),
  (tb_i8 (List.mem_of_getElem? (i := 238) rfl) rfl),
  (tb_i9 (List.mem_of_getElem? (i := 0) rfl) rfl),
  (tb_i9 (List.mem_of_getElem? (i := 2) rfl) rfl),
  (tb_i9 (List.mem_of_getElem? (i := 4) rfl) rfl),
  (tb_i9 (List.mem_of_getElem? (i := 6) rfl) rfl),
  (tb_i9 (List.mem_of_getElem? (i := 8) rfl) rfl),
  (tb_i9 (List.mem_of_getElem? (i := 10) rfl) rfl),
  (tb_i9 (List.mem_of_getElem? (i := 12) rfl) rfl),
  (tb_i9 (List.mem_of_getElem? (i := 14) rfl) rfl),
  (tb_i9 (List.mem_of_getElem? (i := 16) rfl) rfl),
  (tb_i9 (List.mem_of_getElem? (i := 18) rfl) rfl),
  (tb_i9 (List.mem_of_getElem? (i := 20) rfl) rfl),
  (tb_i9 (List.mem_of_getElem? (i := 22) rfl) rfl),
  (tb_i9 (List.mem_of_getElem? (i := 24) rfl) rfl),
  (tb_i9 (List.mem_of_getElem? (i := 26) rfl) rfl),
  (tb_i9 (List.mem_of_getElem? (i := 28) rfl) rfl),
  (tb_i9 (List.mem_of_getElem? (i := 30) rfl) rfl),
  (tb_i9 (List.mem_of_getElem? (i := 32) rfl) rfl),
  (tb_i9 (List.mem_of_getElem? (i := 34) rfl) rfl),
  (tb_i9 (List.mem_of_getElem? (i := 36) rfl) rfl),
  (tb_i9 (List.mem_of_getElem? (i := 38) rfl) rfl),
  (tb_i9 (List.mem_of_getElem? (i := 40) rfl) rfl),
  (tb_i9 (List.mem_of_getElem? (i := 42) rfl) rfl),
  (tb_i9 (List.mem_of_getElem? (i := 44) rfl) rfl),
  (tb_i9 (List.mem_of_getElem? (i := 46) rfl) rfl),
  (tb_i9 (List.mem_of_getElem? (i := 48) rfl) rfl),
  (tb_i9 (List.mem_of_getElem? (i := 50) rfl) rfl),
  (tb_i9 (List.mem_of_getElem? (i := 52) rfl) rfl),
  (tb_i9 (List.mem_of_getElem? (i := 54) rfl) rfl),
  (tb_i9 (List.mem_of_getElem? (i := 56) rfl) rfl),
  (tb_i9 (List.mem_of_getElem? (i := 58) rfl) rfl),
  (tb_i9 (List.mem_of_getElem? (i := 60) rfl) rfl),
  (tb_i9 (List.mem_of_getElem? (i := 62) rfl) rfl),
  (tb_i9 (List.mem_of_getElem? (i := 64) rfl) rfl),
  (tb_i9 (List.mem_of_getElem? (i := 66) rfl) rfl),
  (tb_i9 (List.mem_of_getElem? (i := 68) rfl) rfl),
  (tb_i9 (List.mem_of_getElem? (i := 70) rfl) rfl),
  (tb_i9 (List.mem_of_getElem? (i := 72) rfl) rfl),
  (tb_i9 (List.mem_of_getElem? (i := 74) rfl) rfl),
  (tb_i9 (List.mem_of_getElem? (i := 76) rfl) rfl),
  (tb_i9 (List.mem_of_getElem? (i := 78) rfl) rfl),
  (tb_i9 (List.mem_of_getElem? (i := 80) rfl) rfl),
  (tb_i9 (List.mem_of_getElem? (i := 82) rfl) rfl),
  (tb_i9 (List.mem_of_getElem? (i := 84) rfl) rfl),
  (tb_i9 (List.mem_of_getElem? (i := 86) rfl) rfl),
  (tb_i9 (List.mem_of_getElem? (i := 88) rfl) rfl),
  (tb_i9 (List.mem_of_getElem? (i := 90) rfl) rfl),
  trivial⟩
set_option maxRecDepth 20000 in
theorem tb_f12 : mm_allL (fun j => parseFieldDescriptor (tb_T12 j).2.2.1 = some (tb_ft 12 j).1 ∧ (tb_T12 j).2.2.2 = (tb_ft 12 j).2 ∧ (tb_T12 j).1 = "IndexedCompilerModel") (List.range 145) := ⟨⟨tb_pd0, rfl, rfl⟩, ⟨tb_pd13, rfl, rfl⟩, ⟨tb_pd0, rfl, rfl⟩, ⟨tb_pd14, rfl, rfl⟩, ⟨tb_pd14, rfl, rfl⟩, ⟨tb_pd14, rfl, rfl⟩, ⟨tb_pd0, rfl, rfl⟩, ⟨tb_pd0, rfl, rfl⟩, ⟨tb_pd12, rfl, rfl⟩, ⟨tb_pd0, rfl, rfl⟩, ⟨tb_pd0, rfl, rfl⟩, ⟨tb_pd14, rfl, rfl⟩, ⟨tb_pd14, rfl, rfl⟩, ⟨tb_pd14, rfl, rfl⟩, ⟨tb_pd14, rfl, rfl⟩, ⟨tb_pd14, rfl, rfl⟩, ⟨tb_pd14, rfl, rfl⟩, ⟨tb_pd14, rfl, rfl⟩, ⟨tb_pd14, rfl, rfl⟩, ⟨tb_pd14, rfl, rfl⟩, ⟨tb_pd14, rfl, rfl⟩, ⟨tb_pd0, rfl, rfl⟩, ⟨tb_pd14, rfl, rfl⟩, ⟨tb_pd14, rfl, rfl⟩, ⟨tb_pd14, rfl, rfl⟩, ⟨tb_pd14, rfl, rfl⟩, ⟨tb_pd14, rfl, rfl⟩, ⟨tb_pd14, rfl, rfl⟩, ⟨tb_pd14, rfl, rfl⟩, ⟨tb_pd19, rfl, rfl⟩, ⟨tb_pd0, rfl, rfl⟩, ⟨tb_pd14, rfl, rfl⟩, ⟨tb_pd14, rfl, rfl⟩, ⟨tb_pd14, rfl, rfl⟩, ⟨tb_pd0, rfl, rfl⟩, ⟨tb_pd14, rfl, rfl⟩, ⟨tb_pd14, rfl, rfl⟩, ⟨tb_pd14, rfl, rfl⟩, ⟨tb_pd0, rfl, rfl⟩, ⟨tb_pd14, rfl, rfl⟩, ⟨tb_pd14, rfl, rfl⟩, ⟨tb_pd14, rfl, rfl⟩, ⟨tb_pd0, rfl, rfl⟩, ⟨tb_pd14, rfl, rfl⟩, ⟨tb_pd14, rfl, rfl⟩, ⟨tb_pd14, rfl, rfl⟩, ⟨tb_pd14, rfl, rfl⟩, ⟨tb_pd14, rfl, rfl⟩, ⟨tb_pd0, rfl, rfl⟩, ⟨tb_pd14, rfl, rfl⟩, ⟨tb_pd0, rfl, rfl⟩, ⟨tb_pd0, rfl, rfl⟩, ⟨tb_pd14, rfl, rfl⟩, ⟨tb_pd14, rfl, rfl⟩, ⟨tb_pd14, rfl, rfl⟩, ⟨tb_pd14, rfl, rfl⟩, ⟨tb_pd14, rfl, rfl⟩, ⟨tb_pd14, rfl, rfl⟩, ⟨tb_pd14, rfl, rfl⟩, ⟨tb_pd14, rfl, rfl⟩, ⟨tb_pd14, rfl, rfl⟩, ⟨tb_pd0, rfl, rfl⟩, ⟨tb_pd0, rfl, rfl⟩, ⟨tb_pd0, rfl, rfl⟩, ⟨tb_pd0, rfl, rfl⟩, ⟨tb_pd0, rfl, rfl⟩, ⟨tb_pd0, rfl, rfl⟩, ⟨tb_pd12, rfl, rfl⟩, ⟨tb_pd14, rfl, rfl⟩, ⟨tb_pd14, rfl, rfl⟩, ⟨tb_pd14, rfl, rfl⟩, ⟨tb_pd19, rfl, rfl⟩, ⟨tb_pd14, rfl, rfl⟩, ⟨tb_pd14, rfl, rfl⟩, ⟨tb_pd0, rfl, rfl⟩, ⟨tb_pd0, rfl, rfl⟩, ⟨tb_pd0, rfl, rfl⟩, ⟨tb_pd0, rfl, rfl⟩, ⟨tb_pd15, rfl, rfl⟩, ⟨tb_pd0, rfl, rfl⟩, ⟨tb_pd14, rfl, rfl⟩, ⟨tb_pd14, rfl, rfl⟩, ⟨tb_pd15, rfl, rfl⟩, ⟨tb_pd0, rfl, rfl⟩, ⟨tb_pd15, rfl, rfl⟩, ⟨tb_pd19, rfl, rfl⟩, ⟨tb_pd15, rfl, rfl⟩, ⟨tb_pd15, rfl, rfl⟩, ⟨tb_pd15, rfl, rfl⟩, ⟨tb_pd15, rfl, rfl⟩, ⟨tb_pd0, rfl, rfl⟩, ⟨tb_pd0, rfl, rfl⟩, ⟨tb_pd0, rfl, rfl⟩, ⟨tb_pd1, rfl, rfl⟩, ⟨tb_pd0, rfl, rfl⟩, ⟨tb_pd0, rfl, rfl⟩, ⟨tb_pd0, rfl, rfl⟩, ⟨tb_pd15, rfl, rfl⟩, ⟨tb_pd0, rfl, rfl⟩, ⟨tb_pd15, rfl, rfl⟩, ⟨tb_pd15, rfl, rfl⟩, ⟨tb_pd12, rfl, rfl⟩, ⟨tb_pd0, rfl, rfl⟩, ⟨tb_pd14, rfl, rfl⟩, ⟨tb_pd14, rfl, rfl⟩, ⟨tb_pd14, rfl, rfl⟩, ⟨tb_pd14, rfl, rfl⟩, ⟨tb_pd14, rfl, rfl⟩, ⟨tb_pd14, rfl, rfl⟩, ⟨tb_pd14, rfl, rfl⟩, ⟨tb_pd14, rfl, rfl⟩, ⟨tb_pd14, rfl, rfl⟩, ⟨tb_pd0, rfl, rfl⟩, ⟨tb_pd0, rfl, rfl⟩, ⟨tb_pd14, rfl, rfl⟩, ⟨tb_pd14, rfl, rfl⟩, ⟨tb_pd14, rfl, rfl⟩, ⟨tb_pd19, rfl, rfl⟩, ⟨tb_pd0, rfl, rfl⟩, ⟨tb_pd0, rfl, rfl⟩, ⟨tb_pd14, rfl, rfl⟩, ⟨tb_pd19, rfl, rfl⟩, ⟨tb_pd14, rfl, rfl⟩, ⟨tb_pd14, rfl, rfl⟩, ⟨tb_pd14, rfl, rfl⟩, ⟨tb_pd14, rfl, rfl⟩, ⟨tb_pd0, rfl, rfl⟩, ⟨tb_pd14, rfl, rfl⟩, ⟨tb_pd0, rfl, rfl⟩, ⟨tb_pd0, rfl, rfl⟩, ⟨tb_pd14, rfl, rfl⟩, ⟨tb_pd14, rfl, rfl⟩, ⟨tb_pd14, rfl, rfl⟩, ⟨tb_pd14, rfl, rfl⟩, ⟨tb_pd0, rfl, rfl⟩, ⟨tb_pd0, rfl, rfl⟩, ⟨tb_pd0, rfl, rfl⟩, ⟨tb_pd0, rfl, rfl⟩, ⟨tb_pd0, rfl, rfl⟩, ⟨tb_pd0, rfl, rfl⟩, ⟨tb_pd0, rfl, rfl⟩, ⟨tb_pd0, rfl, rfl⟩, ⟨tb_pd14, rfl, rfl⟩, ⟨tb_pd0, rfl, rfl⟩, ⟨tb_pd15, rfl, rfl⟩, trivial⟩
def tb_N12 : List (List Char) := [['t', 'h', 'r', 'o', 'w', 'n'], ['l', 'i', 'n', 'e'], ['l', 'i', 'n', 'e', 'S', 'i', 'z', 'e'], ['t', 'o', 'k', 'e', 'n', 'K', 'i', 'n', 'd'], ['t', 'o', 'k', 'e', 'n', 'A', 't'], ['t', 'o', 'k', 'e', 'n', 'C', 'o', 'd', 'e'], ['t', 'o', 'k', 'e', 'n'], ['f', 'a', 'u', 'l', 't', 'P', 'l', 'a', 'c', 'e'], ['i', 's', 'W', 'r', 'o', 'n', 'g'], ['w', 'r', 'o', 'n', 'g', 'A', 't'], ['f', 'u', 'n', 'c', 't', 'i', 'o', 'n', 's'], ['f', 'u', 'n', 'c', 't', 'i', 'o', 'n', 'N', 'a', 'm', 'e'], ['i', 'n', 'd', 'e', 'x', 'N', 'a', 'm', 'e', 's'], ['i', 'n', 'd', 'e', 'x', 'M', 'a', 'n', 'y'], ['o', 'w', 'n', 'P', 'r', 'o', 'p', 's'], ['o', 'w', 'n', 'M', 'a', 'n', 'y'], ['p', 'a', 'r', 'a', 'm', 'N', 'a', 'm', 'e', 's'], ['p', 'a', 'r', 'a', 'm', 'T', 'y', 'p', 'e', 's'], ['p', 'a', 'r', 'a', 'm', 'M', 'a', 'n', 'y'], ['r', 'e', 's', 'u', 'l', 't', 'T', 'y', 'p', 'e'], ['b', 'o', 'd', 'y'], ['n', 'o', 'd', 'e', 's'], ['n', 'o', 'd', 'e', 'K', 'i', 'n', 'd'], ['n', 'o', 'd', 'e', 'A'], ['n', 'o', 'd', 'e', 'B'], ['n', 'o', 'd', 'e', 'C'], ['n', 'o', 'd', 'e', 'D'], ['n', 'o', 'd', 'e', 'E'], ['n', 'o', 'd', 'e', 'A', 't'], ['n', 'o', 'd', 'e', 'F', 'r', 'e', 'e'], ['t', 'e', 'r', 'm', 's'], ['t', 'e', 'r', 'm', 'T', 'i', 'm', 'e', 's'], ['t', 'e', 'r', 'm', 'N', 'a', 'm', 'e'], ['t', 'e', 'r', 'm', 'A', 't'], ['i', 'n', 'd', 'e', 'x', 'e', 's'], ['i', 'n', 'd', 'e', 'x', 'F', 'i', 'r', 's', 't'], ['i', 'n', 'd', 'e', 'x', 'T', 'e', 'r', 'm', 's'], ['i', 'n', 'd', 'e', 'x', 'A', 't'], ['p', 'r', 'o', 'p', 's'], ['p', 'r', 'o', 'p', 'L', 'e', 'f', 't'], ['p', 'r', 'o', 'p', 'R', 'e', 'l', 'a', 't', 'i', 'o', 'n'], ['p', 'r', 'o', 'p', 'R', 'i', 'g', 'h', 't'], ['t', 'y', 'p', 'e', 's'], ['t', 'y', 'p', 'e', 'K', 'i', 'n', 'd'], ['t', 'y', 'p', 'e', 'I', 'n', 'd', 'e', 'x'], ['t', 'y', 'p', 'e', 'N', 'a', 'm', 'e'], ['t', 'y', 'p', 'e', 'P', 'r', 'o', 'p', 's'], ['t', 'y', 'p', 'e', 'M', 'a', 'n', 'y'], ['a', 'r', 'g', 's'], ['a', 'r', 'g', 'N', 'o', 'd', 'e', 's'], ['s', 'a', 'm', 'e', 'A', 't'], ['f', 'r', 'a', 'm', 'e', 's'], ['f', 'r', 'a', 'm', 'e', 'K', 'i', 'n', 'd'], ['f', 'r', 'a', 'm', 'e', 'S', 't', 'a', 't', 'e'], ['f', 'r', 'a', 'm', 'e', 'D', 'e', 'e', 'p'], ['f', 'r', 'a', 'm', 'e', 'N', 'o', 'd', 'e'], ['f', 'r', 'a', 'm', 'e', 'O', 't', 'h', 'e', 'r'], ['f', 'r', 'a', 'm', 'e', 'T', 'h', 'i', 'r', 'd'], ['f', 'r', 'a', 'm', 'e', 'F', 'o', 'u', 'r', 't', 'h'], ['f', 'r', 'a', 'm', 'e', 'A', 't'], ['f', 'r', 'a', 'm', 'e', 'A', 'r', 'g', 's'], ['g', 'i', 'v', 'e', 'n'], ['g', 'o', 'a', 'l', 's'], ['p', 'r', 'o', 'v', 'e', 'd'], ['a', 'c', 'c', 'e', 's', 's', 'e', 's'], ['f', 'r', 'e', 'e', 'O', 'n', 'e', 's'], ['f', 'a', 'u', 'l', 't', 'F', 'u', 'n', 'c', 't', 'i', 'o', 'n'], ['i', 's', 'A', 'c', 'c', 'e', 'p', 't', 'e', 'd'], ['g', 'o', 'a', 'l', 'F', 'u', 'n', 'c', 't', 'i', 'o', 'n'], ['g', 'o', 'a', 'l', 'A', 't'], ['g', 'o', 'a', 'l', 'S', 'o', 'r', 't'], ['g', 'o', 'a', 'l', 'P', 'r', 'o', 'v', 'e', 'd'], ['g', 'o', 'a', 'l', 'F', 'a', 'c', 't', 's'], ['g', 'o', 'a', 'l', 'V', 'a', 'r', 'i', 'a', 'b', 'l', 'e', 's'], ['f', 'a', 'u', 'l', 't'], ['c', 'h', 'e', 'c', 'k', 'i', 'n', 'g'], ['v', 'a', 'r', 'i', 'a', 'b', 'l', 'e', 's'], ['f', 'a', 'c', 't', 's'], ['f', 'a', 'c', 't', 'R', 'o', 'w', 's'], ['n', 'a', 'm', 'e', 'd'], ['e', 'n', 'v', 'N', 'a', 'm', 'e'], ['e', 'n', 'v', 'S', 'o', 'r', 't'], ['e', 'n', 'v', 'R', 'o', 'w', 's'], ['t', 'o', 'p'], ['v', 'a', 'l', 'u', 'e', 'R', 'o', 'w', 's'], ['v', 'a', 'l', 'u', 'e', 'I', 's', 'R', 'o', 'w'], ['o', 'n', 'e'], ['l', 'e', 'f', 't'], ['r', 'i', 'g', 'h', 't'], ['g', 'o', 'a', 'l'], ['e', 'n', 'v', 'F', 'r', 'o', 'm'], ['i', 'N', 'a', 'm', 'e'], ['i', 'A', 't'], ['i', 'T', 'i', 'm', 'e', 's'], ['e', 'n', 'v', 'T', 'o'], ['c', 'a', 'l', 'l', 'P', 'l', 'a', 'c', 'e'], ['r', 'o', 'w', 's'], ['r', 'o', 'w', 's', 'A', 't'], ['f', 'r', 'e', 's', 'h'], ['f', 'r', 'e', 's', 'h', 'A', 't'], ['t', 'i', 'g', 'h', 't'], ['i', 's', 'F', 'a', 'l', 's', 'e'], ['s', 't', 'e', 'p', 's'], ['s', 't', 'e', 'p', 'N', 'o', 'd', 'e'], ['s', 't', 'e', 'p', 'S', 't', 'a', 't', 'e'], ['s', 't', 'e', 'p', 'H', 'o', 'w'], ['s', 't', 'e', 'p', 'T', 'y', 'p', 'e'], ['s', 't', 'e', 'p', 'T', 'o', 'p'], ['s', 't', 'e', 'p', 'V', 'a', 'r', 'i', 'a', 'b', 'l', 'e', 's'], ['s', 't', 'e', 'p', 'F', 'a', 'c', 't', 's'], ['s', 't', 'e', 'p', 'O', 't', 'h', 'e', 'r'], ['s', 't', 'e', 'p', 'N', 'a', 'm', 'e', 'd'], ['l', 'o', 'o', 'k', 'N', 'a', 'm', 'e', 'd'], ['t', 'o', 'l', 'd'], ['c', 'o', 'd', 'e', 'M', 'a', 'n', 'y'], ['c', 'o', 'd', 'e', 's'], ['n', 'u', 'm', 'b', 'e', 'r', 's'], ['c', 'o', 'd', 'e', 'F', 'r', 'e', 'e'], ['c', 'o', 'm', 'p', 'i', 'l', 'e', 'd'], ['l', 'o', 'c', 'a', 'l', 's'], ['l', 'o', 'c', 'a', 'l', 'N', 'a', 'm', 'e'], ['s', 'l', 'o', 't', 'I', 's', 'R', 'o', 'w'], ['s', 'l', 'o', 't', 's'], ['s', 'l', 'o', 't', 'R', 'o', 'w', 's'], ['v', 'a', 'l', 'u', 'e', 's'], ['c', 'e', 'l', 'l', 's'], ['t', 'a', 'k', 'e', 'n'], ['p', 'i', 'l', 'e'], ['p', 'i', 'l', 'e', 'd'], ['c', 'a', 'l', 'l', 's'], ['c', 'a', 'l', 'l', 'F', 'u', 'n', 'c', 't', 'i', 'o', 'n'], ['c', 'a', 'l', 'l', 'N', 'e', 'x', 't'], ['c', 'a', 'l', 'l', 'L', 'o', 'c', 'a', 'l', 's'], ['p', 'r', 'i', 'n', 't', 's'], ['p', 'r', 'i', 'n', 't', 'e', 'd', 'M', 'a', 'n', 'y'], ['e', 'n', 'd', 'e', 'd'], ['a', 'n', 's', 'w', 'e', 'r', 'e', 'd'], ['a', 'n', 's', 'w', 'e', 'r', 'R', 'o', 'w'], ['m', 'a', 'd', 'e'], ['c', 'h', 'e', 'c', 'k', 's'], ['r', 'e', 'a', 'c', 'h', 'e', 'd'], ['d', 'e', 'e', 'p', 'e', 's', 't'], ['p', 'a', 'r', 'a', 'm', 'C', 'e', 'l', 'l'], ['d', 'e', 's', 'k', 'F', 'a', 'c', 't', 's'], ['d', 'e', 's', 'k', 'R', 'o', 'w', 's']]
set_option maxRecDepth 20000 in
theorem tb_n12 : tb_N12.Nodup := by decide +kernel
set_option maxRecDepth 20000 in
theorem tb_m12 : mm_allL (fun j => (tb_N12[j]?).map String.ofList = some (tb_T12 j).2.1) (List.range 145) := ⟨rfl, rfl, rfl, rfl, rfl, rfl, rfl, rfl, rfl, rfl, rfl, rfl, rfl, rfl, rfl, rfl, rfl, rfl, rfl, rfl, rfl, rfl, rfl, rfl, rfl, rfl, rfl, rfl, rfl, rfl, rfl, rfl, rfl, rfl, rfl, rfl, rfl, rfl, rfl, rfl, rfl, rfl, rfl, rfl, rfl, rfl, rfl, rfl, rfl, rfl, rfl, rfl, rfl, rfl, rfl, rfl, rfl, rfl, rfl, rfl, rfl, rfl, rfl, rfl, rfl, rfl, rfl, rfl, rfl, rfl, rfl, rfl, rfl, rfl, rfl, rfl, rfl, rfl, rfl, rfl, rfl, rfl, rfl, rfl, rfl, rfl, rfl, rfl, rfl, rfl, rfl, rfl, rfl, rfl, rfl, rfl, rfl, rfl, rfl, rfl, rfl, rfl, rfl, rfl, rfl, rfl, rfl, rfl, rfl, rfl, rfl, rfl, rfl, rfl, rfl, rfl, rfl, rfl, rfl, rfl, rfl, rfl, rfl, rfl, rfl, rfl, rfl, rfl, rfl, rfl, rfl, rfl, rfl, rfl, rfl, rfl, rfl, rfl, rfl, rfl, rfl, rfl, rfl, rfl, rfl, trivial⟩
